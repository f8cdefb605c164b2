/** Edges of promises 1 to 6 and 26: the scene, prices and counts, and what holds for all calls. */
final class SceneEdges {
    private static final int UNKNOWN = GreenDoor.UNKNOWN, OUTSIDE = GreenDoor.OUTSIDE, NOT = GreenDoor.NOT;
    private static final int FULL = GreenDoor.FULL;
    private static final int LOW = Integer.MIN_VALUE, HIGH = Integer.MAX_VALUE;

    private final Edges e;

    SceneEdges(Edges edges) {
        e = edges;
    }

    void run() {
        newObject();
        lastCall();
        numbers();
        kindsAndColours();
        sizes();
        places();
        marks();
        tiesOnce();
        oneApart();
        thingRefused();
        paintBounds();
        paintRefused();
        ties();
        ofBounds();
        prices();
        priceRefused();
        counts();
        countRefused();
        refusals();
    }

    private void newObject() {
        e.sentence(1, "An empty SCENE.");
        GreenDoor d = new GreenDoor();
        for (int what = 0; what < 5; what++) {
            e.is("count " + what, d.count(what), 0);
        }
        e.is("thing 0", d.of(0, 0), UNKNOWN);
        e.is("all", d.cheapest(0, 1, -1), 1);
        e.is("a set of a thing", d.cheapest(1, 1, -1), OUTSIDE);
        e.is("sets", d.sets(32767), 1);
    }

    private void lastCall() {
        e.sentence(1, "An object is used for at most 512 calls after it has been made");
        GreenDoor d = new GreenDoor();
        Edges.alike(d, 0, 1, 2, 3, 4, 5, 6, 7);
        int was = 1;
        for (int call = 9; call < 511; call++) {
            int size = 1 + call % 9;
            e.is("call " + call, d.paint(7, 2, size), was);
            was = size;
        }
        e.is("call 511", d.quick(7), GreenDoor.NONE);
        e.is("call 512", d.cheapest(255, 32767, -1), 1);
    }

    private void numbers() {
        e.sentence(2, "THINGS, numbered from 0, 8 at most");
        GreenDoor d = new GreenDoor();
        for (int i = 0; i < 8; i++) {
            e.is("number", d.thing(0, 0, 1, 2 * i), i);
        }
        e.is("a ninth", d.thing(0, 0, 1, 1), FULL);
        e.is("how many", d.count(0), 8);
        e.is("place of the first", d.of(0, 4), 0);
        e.is("place of the eighth", d.of(7, 4), 14);
        e.is("the ninth", d.of(8, 4), UNKNOWN);
    }

    private void kindsAndColours() {
        e.sentence(2, "each of a KIND, a COLOUR (0 .. 3 each)");
        GreenDoor d = new GreenDoor();
        d.thing(0, 3, 1, 0);
        d.thing(3, 0, 1, 1);
        e.is("kind 0", d.of(0, 0), 0);
        e.is("kind 3", d.of(1, 0), 3);
        e.is("colour 3", d.of(0, 1), 3);
        e.is("colour 0", d.of(1, 1), 0);
        for (int v : new int[] {-1, 4, LOW, HIGH}) {
            e.refused("kind " + v, Edges::some, x -> x.thing(v, 0, 1, 0), OUTSIDE);
            e.refused("colour " + v, Edges::some, x -> x.thing(0, v, 1, 0), OUTSIDE);
        }
    }

    private void sizes() {
        e.sentence(2, "a SIZE (1 .. 9)");
        GreenDoor d = new GreenDoor();
        d.thing(0, 0, 1, 0);
        d.thing(0, 0, 9, 1);
        e.is("size 1", d.of(0, 2), 1);
        e.is("size 9", d.of(1, 2), 9);
        for (int v : new int[] {0, 10, -1, LOW, HIGH}) {
            e.refused("size " + v, Edges::some, x -> x.thing(0, 0, v, 0), OUTSIDE);
        }
    }

    private void places() {
        e.sentence(2, "at a PLACE (0 .. 15, none twice)");
        GreenDoor d = new GreenDoor();
        d.thing(0, 0, 1, 0);
        d.thing(0, 0, 1, 15);
        e.is("place 0", d.of(0, 4), 0);
        e.is("place 15", d.of(1, 4), 15);
        e.is("place 0 twice", d.thing(0, 0, 1, 0), NOT);
        e.is("place 15 twice", d.thing(0, 0, 1, 15), NOT);
        for (int v : new int[] {-1, 16, LOW, HIGH}) {
            e.refused("place " + v, Edges::some, x -> x.thing(0, 0, 1, v), OUTSIDE);
        }
    }

    private void marks() {
        e.sentence(3, "with MARKS (0 .. 2, by bits)");
        GreenDoor d = new GreenDoor();
        d.thing(0, 0, 1, 0);
        e.is("none at first", d.of(0, 3), 0);
        for (int marks = 0; marks < 8; marks++) {
            d.paint(0, 3, marks);
            for (int mark = 0; mark < 3; mark++) {
                Due.tell(d, "mark " + mark);
                e.is("mark " + mark + " of marks " + marks, d.says(0), marks >> mark & 1);
            }
        }
    }

    private void tiesOnce() {
        e.sentence(4, "TIES are told from a THING to another one (each once)");
        GreenDoor d = new GreenDoor();
        Edges.alike(d, 0, 1);
        e.is("once", d.tie(0, 1), 1);
        e.is("twice", d.tie(0, 1), NOT);
        e.is("the other way", d.tie(1, 0), 2);
        e.is("the other way twice", d.tie(1, 0), NOT);
        e.is("from 0", d.of(0, 6), 2);
        e.is("from 1", d.of(1, 6), 1);
    }

    private void oneApart() {
        e.sentence(5, "BESIDE are two whose PLACES are one apart.");
        GreenDoor d = new GreenDoor();
        Edges.alike(d, 0, 15, 2, 1, 14, 7, 9);
        int[] beside = {8, 16, 8, 1 + 4, 2, 0, 0};
        for (int i = 0; i < 7; i++) {
            e.is("those beside " + i, d.of(i, 5), beside[i]);
        }
        d.thing(0, 0, 1, 8);
        e.is("one put between", d.of(7, 5), 32 + 64);
        e.is("on its one side", d.of(5, 5), 128);
        e.is("on its other side", d.of(6, 5), 128);
    }

    private void thingRefused() {
        e.sentence(2, "A THING: its number. OUTSIDE; NOT: there is one at that PLACE; FULL.");
        e.refused("a place taken", Edges::some, d -> d.thing(0, 0, 1, 15), NOT);
        e.refused("a ninth", Edges::full, d -> d.thing(0, 0, 1, 5), FULL);
        e.refused("a ninth at the first one's place", Edges::full, d -> d.thing(0, 0, 1, 0), NOT);
        e.refused("a ninth at the eighth one's place", Edges::full, d -> d.thing(0, 0, 1, 15), NOT);
        e.refused("no kind at a place taken", Edges::some, d -> d.thing(4, 0, 1, 3), OUTSIDE);
        e.refused("no colour at a place taken", Edges::some, d -> d.thing(0, -1, 1, 3), OUTSIDE);
        e.refused("no size at a place taken", Edges::some, d -> d.thing(0, 0, 0, 3), OUTSIDE);
        e.refused("a ninth of no kind", Edges::full, d -> d.thing(-1, 0, 1, 5), OUTSIDE);
        e.refused("a ninth at no place", Edges::full, d -> d.thing(0, 0, 1, 16), OUTSIDE);
        e.refused("a ninth of no size at a place taken", Edges::full, d -> d.thing(0, 0, 10, 0), OUTSIDE);
        e.refused("the first one of no kind", Edges::nothing, d -> d.thing(4, 0, 1, 0), OUTSIDE);
    }

    private void paintBounds() {
        e.sentence(3, "A THING is changed: KIND (what 0), COLOUR (1), SIZE (2), MARKS (3; 0 .. 7): that which it was.");
        int[] least = {0, 0, 1, 0};
        int[] greatest = {3, 3, 9, 7};
        for (int what = 0; what < 4; what++) {
            GreenDoor d = new GreenDoor();
            Edges.alike(d, 0, 1, 2, 3, 4, 5, 6, 7);
            for (int thing = 0; thing < 8; thing += 7) {
                String call = "what " + what + " of " + thing;
                e.is(call + " to the greatest", d.paint(thing, what, greatest[what]), least[what]);
                e.is(call + " is the greatest", d.of(thing, what), greatest[what]);
                e.is(call + " to the least", d.paint(thing, what, least[what]), greatest[what]);
                e.is(call + " is the least", d.of(thing, what), least[what]);
                e.is(call + " to what it is", d.paint(thing, what, least[what]), least[what]);
            }
            for (int v : new int[] {least[what] - 1, greatest[what] + 1, LOW, HIGH}) {
                int w = what;
                e.refused("what " + what + " to " + v, Edges::some, x -> x.paint(0, w, v), OUTSIDE);
            }
        }
    }

    private void paintRefused() {
        e.sentence(3, "UNKNOWN; OUTSIDE.");
        for (int thing : new int[] {-1, 3, LOW, HIGH}) {
            e.refused("thing " + thing, Edges::some, d -> d.paint(thing, 0, 0), UNKNOWN);
            e.refused("thing " + thing + ", what 4", Edges::some, d -> d.paint(thing, 4, 0), UNKNOWN);
            e.refused("thing " + thing + ", kind 4", Edges::some, d -> d.paint(thing, 0, 4), UNKNOWN);
        }
        for (int what : new int[] {-1, 4, LOW, HIGH}) {
            e.refused("what " + what, Edges::some, d -> d.paint(0, what, 1), OUTSIDE);
        }
        e.refused("thing 0 of none", Edges::nothing, d -> d.paint(0, 0, 0), UNKNOWN);
        e.refused("thing 8 of eight", Edges::full, d -> d.paint(8, 0, 0), UNKNOWN);
    }

    private void ties() {
        e.sentence(4, "A TIE from a THING to another one: how many. UNKNOWN: also one and itself; NOT: there is one.");
        GreenDoor d = new GreenDoor();
        Edges.alike(d, 0, 2, 4, 6, 8, 10, 12, 14);
        int ties = 0;
        for (int from = 7; from >= 0; from--) {
            for (int to = 0; to < 8; to++) {
                e.is("from " + from + " to " + to, d.tie(from, to), from == to ? UNKNOWN : ++ties);
            }
        }
        e.is("all of them", d.count(1), 56);
        for (int thing : new int[] {-1, 3, LOW, HIGH}) {
            e.refused("from " + thing, Edges::some, x -> x.tie(thing, 1), UNKNOWN);
            e.refused("to " + thing, Edges::some, x -> x.tie(1, thing), UNKNOWN);
            e.refused("from and to " + thing, Edges::some, x -> x.tie(thing, thing), UNKNOWN);
        }
        e.refused("itself", Edges::some, x -> x.tie(2, 2), UNKNOWN);
        e.refused("there is one", Edges::some, x -> x.tie(2, 0), NOT);
        e.refused("itself, all being tied", Edges::full, x -> x.tie(7, 7), UNKNOWN);
        e.refused("there are all", Edges::full, x -> x.tie(7, 6), NOT);
        e.refused("thing 0 of none", Edges::nothing, x -> x.tie(0, 1), UNKNOWN);
    }

    private void ofBounds() {
        e.sentence(5, "KIND (what 0), COLOUR (1), SIZE (2), MARKS (3), PLACE (4), those BESIDE it (5), those to which "
                + "TIES go from it (6; both by bits). UNKNOWN; OUTSIDE.");
        GreenDoor d = new GreenDoor();
        Edges.fullScene(d);
        int[] first = {0, 0, 1, 0, 0, 2, 254};
        int[] last = {3, 1, 8, 7, 15, 64, 127};
        for (int what = 0; what < 7; what++) {
            e.is("of 0, " + what, d.of(0, what), first[what]);
            e.is("of 7, " + what, d.of(7, what), last[what]);
        }
        for (int what : new int[] {-1, 7, LOW, HIGH}) {
            e.refused("what " + what, Edges::some, x -> x.of(0, what), OUTSIDE);
        }
        for (int thing : new int[] {-1, 3, LOW, HIGH}) {
            e.refused("thing " + thing, Edges::some, x -> x.of(thing, 0), UNKNOWN);
            e.refused("thing " + thing + ", what 7", Edges::some, x -> x.of(thing, 7), UNKNOWN);
            e.refused("thing " + thing + ", what -1", Edges::some, x -> x.of(thing, -1), UNKNOWN);
        }
        e.refused("thing 8 of eight", Edges::full, x -> x.of(8, 6), UNKNOWN);
    }

    private void prices() {
        e.sentence(6, "Each WORD costs 1 .. 9 (1 at first)");
        GreenDoor d = new GreenDoor();
        for (int word = 0; word < 15; word++) {
            e.is("word " + word + " at first", d.price(word, 9), 1);
            e.is("word " + word + " at 9", d.price(word, 1), 9);
            e.is("word " + word + " at 1", d.price(word, 1), 1);
        }
    }

    private void priceRefused() {
        e.sentence(6, "What a WORD costs: that which it cost. OUTSIDE.");
        for (int v : new int[] {0, 10, -1, LOW, HIGH}) {
            e.refused("cost " + v, Edges::some, d -> d.price(1, v), OUTSIDE);
        }
        for (int word : new int[] {-1, 15, LOW, HIGH}) {
            e.refused("word " + word, Edges::some, d -> d.price(word, 2), OUTSIDE);
        }
        GreenDoor d = new GreenDoor();
        d.price(0, 5);
        d.price(0, 10);
        d.price(0, 0);
        e.is("a refused cost is not kept", d.price(0, 2), 5);
    }

    private void counts() {
        e.sentence(26, "0 THINGS, 1 TIES, 2 bytes of THE TEXT, 3 SAYINGS kept, 4 THINGS named.");
        GreenDoor empty = new GreenDoor();
        GreenDoor full = new GreenDoor();
        Edges.full(full);
        int[] most = {8, 56, 160, 8, 12};
        for (int what = 0; what < 5; what++) {
            e.is("what " + what + ", empty", empty.count(what), 0);
            e.is("what " + what + ", full", full.count(what), most[what]);
        }
        full.erase();
        full.hush();
        e.is("bytes, erased", full.count(2), 0);
        e.is("things named, hushed", full.count(4), 0);
    }

    private void countRefused() {
        e.sentence(26, "OUTSIDE.");
        for (int what : new int[] {-1, 5, LOW, HIGH}) {
            e.refused("what " + what, Edges::full, d -> d.count(what), OUTSIDE);
        }
    }

    /** Which comes first where several fit, for all calls that refuse by several. */
    private void refusals() {
        e.sentence(2, "Refused, and nothing changes: UNKNOWN (no such THING, SAYING kept), OUTSIDE (another number is not as "
                + "told), NOT (not now: as told), FULL: the first of these that fits.");
        e.refused("thing: outside, not, full", Edges::full, d -> d.thing(0, 4, 1, 0), OUTSIDE);
        e.refused("thing: not, full", Edges::full, d -> d.thing(0, 0, 1, 0), NOT);
        e.refused("paint: unknown, outside", Edges::full, d -> d.paint(8, 4, 8), UNKNOWN);
        e.refused("of: unknown, outside", Edges::full, d -> d.of(8, 7), UNKNOWN);
        e.refused("write: outside, full", Edges::full, d -> d.write(0, 9), OUTSIDE);
        e.refused("says: outside, not", Edges::fullFaulty, d -> d.says(3), OUTSIDE);
        e.refused("keep: not, full", Edges::fullFaulty, d -> d.keep(), NOT);
        e.refused("kept: unknown, outside", Edges::full, d -> d.kept(8, 3), UNKNOWN);
        e.refused("twin: unknown, outside", Edges::full, d -> d.twin(8, 3), UNKNOWN);
        e.refused("hears: unknown, outside", Edges::full, d -> d.hears(8, 21), UNKNOWN);
        e.refused("tells: unknown, outside", Edges::full, d -> d.tells(8, 21), UNKNOWN);
        e.refused("wrong: outside, not", Edges::fullFaulty, d -> d.wrong(3), OUTSIDE);
        e.refused("name: unknown, full", Edges::full, d -> d.name(8), UNKNOWN);
    }
}

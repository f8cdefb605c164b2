/** Edges of promises 22 to 25: talks, and what a mark is worth. */
final class TalkEdges {
    private static final int NONE = GreenDoor.NONE, UNKNOWN = GreenDoor.UNKNOWN, OUTSIDE = GreenDoor.OUTSIDE;
    private static final int FULL = GreenDoor.FULL;
    private static final int LOW = Integer.MIN_VALUE, HIGH = Integer.MAX_VALUE;
    private static final int ALL_WORDS = 32767, ALL = 1, KIND = 2, MARK = 8, AND = 32, TIED = 512;

    private final Edges e;

    TalkEdges(Edges edges) {
        e = edges;
    }

    void run() {
        twelve();
        nameRefused();
        hushes();
        byIt();
        byOther();
        leastCost();
        talkAnswers();
        withoutCounts();
        tooDear();
        bestMark();
        worthAnswers();
        worthRefused();
    }

    private void twelve() {
        e.sentence(22, "A TALK names THINGS one after the other (12 at most)");
        GreenDoor d = new GreenDoor();
        Edges.alike(d, 0);
        for (int i = 1; i <= 12; i++) {
            e.is("name " + i, d.name(0), i);
        }
        e.is("name 13", d.name(0), FULL);
        e.is("how many", d.count(4), 12);
        e.is("costs", d.talk(ALL), 12);
    }

    private void nameRefused() {
        e.sentence(22, "A THING more of the TALK: how many. UNKNOWN; FULL.");
        GreenDoor d = new GreenDoor();
        Edges.fullScene(d);
        for (int i = 0; i < 8; i++) {
            e.is("name " + i, d.name(7 - i), i + 1);
        }
        for (int thing : new int[] {-1, 3, LOW, HIGH}) {
            e.refused("thing " + thing, Edges::some, x -> x.name(thing), UNKNOWN);
        }
        for (int thing : new int[] {-1, 8, LOW, HIGH}) {
            e.refused("thing " + thing + ", a thirteenth", Edges::full, x -> x.name(thing), UNKNOWN);
        }
        e.refused("thing 0 of none", Edges::nothing, x -> x.name(0), UNKNOWN);
        e.refused("a thirteenth", Edges::full, x -> x.name(0), FULL);
        e.refused("a thirteenth", Edges::full, x -> x.name(7), FULL);
    }

    private void hushes() {
        e.sentence(23, "The TALK begins anew: how many were named.");
        GreenDoor d = new GreenDoor();
        e.is("none", d.hush(), 0);
        Edges.full(d);
        e.is("twelve", d.hush(), 12);
        e.is("none are left", d.hush(), 0);
        e.is("how many", d.count(4), 0);
        e.is("costs", d.talk(0), 0);
        e.is("the first", d.name(0), 1);
        e.is("that one costs", d.talk(0), NONE);
    }

    /** Four things, each said by its kind, at this price. */
    private static GreenDoor kinds(int price) {
        GreenDoor d = new GreenDoor();
        for (int i = 0; i < 4; i++) {
            d.thing(i, 0, 1, i);
        }
        d.price(1, price);
        return d;
    }

    private void talk(GreenDoor d, int words, int want, int... things) {
        d.hush();
        StringBuilder call = new StringBuilder("talk of");
        for (int thing : things) {
            call.append(' ').append(thing);
            d.name(thing);
        }
        e.is(call.toString(), d.talk(words), want);
    }

    private void byIt() {
        e.sentence(24, "each by its CHEAPEST SAYING, or by it (1), if it was the one named last");
        talk(kinds(9), KIND, 9, 0);
        talk(kinds(9), KIND, 9 + 1, 0, 0);
        talk(kinds(9), KIND, 9 + 11, 0, 0, 0, 0, 0, 0, 0, 0, 0, 0, 0, 0);
        talk(kinds(9), KIND, 9 + 9, 0, 1);
        talk(kinds(9), KIND, 9 + 9 + 1, 0, 1, 1);
        talk(kinds(2), KIND, 2 + 1, 0, 0);
        talk(kinds(1), KIND, 1 + 1, 0, 0);
        GreenDoor d = kinds(9);
        talk(d, KIND, 9 + 1, 3, 3);
        talk(d, KIND, 9, 3);
    }

    private void byOther() {
        e.sentence(24, "or by other (2), if it is the one that was named last of those that are not");
        talk(kinds(9), KIND, 9 + 9 + 2, 0, 1, 0);
        talk(kinds(9), KIND, 9 + 1 + 9 + 2, 0, 0, 1, 0);
        talk(kinds(9), KIND, 9 + 9 + 9 + 2, 0, 1, 2, 1);
        talk(kinds(9), KIND, 9 + 9 + 9 + 9, 0, 1, 2, 0);
        talk(kinds(9), KIND, 9 + 9 + 9 + 2 + 9, 0, 1, 2, 1, 0);
        talk(kinds(9), KIND, 9 + 9 + 9 + 1 + 2, 0, 1, 2, 2, 1);
        talk(kinds(9), KIND, 9 + 9 + 10 * 2, 0, 1, 0, 1, 0, 1, 0, 1, 0, 1, 0, 1);
        talk(kinds(9), KIND, 9 + 9 + 9 + 2, 0, 1, 1, 1, 1, 1, 1, 1, 1, 1, 1, 0);
        talk(kinds(9), KIND, 9 + 9 + 9 + 8 + 9, 0, 1, 2, 2, 2, 2, 2, 2, 2, 2, 2, 0);
    }

    private void leastCost() {
        e.sentence(24, "the least cost; none, if one cannot be named.");
        talk(kinds(1), KIND, 3, 0, 1, 0);
        talk(kinds(2), KIND, 6, 0, 1, 0);
        talk(kinds(3), KIND, 8, 0, 1, 0);
        GreenDoor d = kinds(3);
        d.paint(3, 0, 0);
        talk(d, KIND, NONE, 0);
        talk(d, KIND, NONE, 0, 0);
        talk(d, KIND, NONE, 1, 0);
        talk(d, KIND, NONE, 1, 2, 1, 2, 1, 2, 1, 2, 1, 2, 1, 3);
        talk(d, KIND, 6 + 9 * 2, 1, 2, 1, 2, 1, 2, 1, 2, 1, 2, 1);
    }

    private void talkAnswers() {
        e.sentence(24, "What the TALK costs; NONE. OUTSIDE: WORDS.");
        GreenDoor d = new GreenDoor();
        e.is("nothing is named, no words", d.talk(0), 0);
        e.is("nothing is named, all words", d.talk(32767), 0);
        Edges.alike(d, 0);
        d.name(0);
        e.is("one is named, no words", d.talk(0), NONE);
        e.is("one is named, all words", d.talk(32767), 1);
        for (int words : new int[] {-1, 32768, LOW, HIGH}) {
            e.refused("words " + words, Edges::some, x -> x.talk(words), OUTSIDE);
            e.refused("words " + words + ", nothing named", Edges::nothing, x -> x.talk(words), OUTSIDE);
        }
    }

    /** A ring of ties: with the words mark and tied, the i-th thing before the first one costs mark + i tied. */
    private static GreenDoor ring(int mark, int tied) {
        GreenDoor d = new GreenDoor();
        Edges.alike(d, 0, 2, 4, 6, 8, 10, 12, 14);
        for (int i = 0; i < 8; i++) {
            d.tie(i, (i + 1) % 8);
        }
        d.paint(0, 3, 1);
        d.price(3, mark);
        d.price(9, tied);
        return d;
    }

    private void withoutCounts() {
        e.sentence(25, "the costs of CHEAPEST SAYINGS of all THINGS together (a THING without counts 50).");
        e.is("no things", new GreenDoor().worth(ALL_WORDS, 0), 0);
        GreenDoor d = kinds(9);
        e.is("all are without", d.worth(0, 0), 4 * 50);
        e.is("none is without", d.worth(KIND, 0), 4 * 9);
        d.paint(3, 0, 0);
        e.is("two are without", d.worth(KIND, 0), 2 * 9 + 2 * 50);
        for (int mark = 4; mark <= 6; mark++) {
            GreenDoor ring = ring(mark, 9);
            e.is("one costs " + (mark + 45), ring.cheapest(8, MARK + TIED, -1), mark + 45);
            e.is("which counts", ring.worth(MARK + TIED, 0), 8 * mark + 28 * 9);
            e.is("seven are without", ring.worth(MARK, 0), mark + 7 * 50);
        }
    }

    /** Eight things, the fourth of which is said by mark, and, tied in no less than 75, 74 and 100 words. */
    private static GreenDoor knot(int mark, int and, int tied) {
        GreenDoor d = new GreenDoor();
        Edges.alike(d, 0, 2, 4, 6, 8, 10, 12, 14);
        int[][] ties = {{1, 5, 7}, {2, 3, 5, 6}, {0, 3, 4, 6}, {0, 5, 6}, {0, 1, 2, 3, 5}, {2, 3, 5, 6},
            {0, 3, 4, 5, 6, 7}, {2, 4, 5, 6}};
        for (int from = 0; from < 8; from++) {
            for (int to : ties[from]) {
                d.tie(from, to);
            }
        }
        for (int marked : new int[] {0, 2, 6}) {
            d.paint(marked, 3, 1);
        }
        d.price(3, mark);
        d.price(5, and);
        d.price(9, tied);
        return d;
    }

    private void tooDear() {
        e.sentence(24, "one that costs more than 999 is none.");
        int words = MARK + AND + TIED;
        talk(knot(3, 1, 7), words, 999, 3);
        talk(knot(3, 1, 7), words, 999 + 1, 3, 3);
        talk(knot(3, 2, 7), words, NONE, 3);
        talk(knot(3, 2, 7), words, NONE, 3, 3);
        e.sentence(25, "one that costs more than 999 is none.");
        for (int and = 1; and <= 2; and++) {
            GreenDoor d = knot(3, and, 7);
            e.is("the fourth thing costs", d.cheapest(8, words, -1), and == 1 ? 999 : NONE);
            int worth = 0;
            for (int i = 0; i < 8; i++) {
                int cost = d.cheapest(1 << i, words, -1);
                worth += cost == NONE ? 50 : cost;
            }
            e.is("worth", d.worth(words, 0), worth);
        }
    }

    private void best(GreenDoor d, int words, int worth, int mark) {
        e.is("worth with the best mark, words " + words, d.worth(words, 1), worth);
        e.is("best mark, words " + words, d.worth(words, 2), mark);
    }

    private void bestMark() {
        e.sentence(25, "BEST MARK: the THING and MARK (0 .. 2) that it has not, which, had it that, make WORTH least; of several "
                + "the first (by THINGS, MARKS).");
        GreenDoor d = new GreenDoor();
        Edges.alike(d, 0, 2, 4);
        best(d, MARK, 1 + 100, 0);
        d.paint(0, 3, 1);
        best(d, MARK, 1 + 1 + 50, 5);
        d.paint(1, 3, 1);
        best(d, MARK, 1 + 100, 1);
        d.paint(0, 3, 3);
        best(d, MARK, 1 + 1 + 50, 6);
        d.paint(1, 3, 5);
        best(d, MARK, 1 + 1 + 50, 8);
        d.paint(0, 3, 7);
        d.paint(1, 3, 7);
        best(d, MARK, 150, 8);
        d.paint(2, 3, 1);
        best(d, MARK, 150, 9);
        d.paint(2, 3, 3);
        best(d, MARK, 150, 10);
    }

    private void worthAnswers() {
        e.sentence(25, "WORTH WITH some WORDS (what 0), that with the BEST MARK (1), BEST MARK: 4 times the THING and the MARK (2); "
                + "NONE (1, 2): each THING has all.");
        GreenDoor none = new GreenDoor();
        e.is("no things", none.worth(ALL_WORDS, 0), 0);
        best(none, ALL_WORDS, NONE, NONE);
        GreenDoor d = new GreenDoor();
        Edges.alike(d, 0, 1, 2, 3, 4, 5, 6, 7);
        best(d, 0, 8 * 50, 0);
        for (int i = 0; i < 8; i++) {
            d.paint(i, 3, 7);
        }
        best(d, 0, NONE, NONE);
        best(d, ALL_WORDS, NONE, NONE);
        e.is("each has all", d.worth(0, 0), 8 * 50);
        for (int mark = 0; mark < 3; mark++) {
            d.paint(7, 3, 7 - (1 << mark));
            best(d, 0, 8 * 50, 28 + mark);
            best(d, MARK, 8 * 50, 28 + mark);
        }
        d.paint(0, 3, 6);
        best(d, 0, 8 * 50, 0);
        e.is("the marks stay", d.of(0, 3), 6);
    }

    private void worthRefused() {
        e.sentence(25, "OUTSIDE.");
        GreenDoor d = new GreenDoor();
        Edges.alike(d, 0);
        e.is("no words", d.worth(0, 2), 0);
        e.is("all words", d.worth(32767, 2), 0);
        for (int words : new int[] {-1, 32768, LOW, HIGH}) {
            for (int what = 0; what < 3; what++) {
                int w = what;
                e.refused("words " + words + ", what " + what, Edges::some, x -> x.worth(words, w), OUTSIDE);
            }
        }
        for (int what : new int[] {-1, 3, LOW, HIGH}) {
            e.refused("what " + what, Edges::some, x -> x.worth(ALL_WORDS, what), OUTSIDE);
            e.refused("what " + what + ", no things", Edges::nothing, x -> x.worth(0, what), OUTSIDE);
        }
    }
}

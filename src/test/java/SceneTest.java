/** Promises 1 to 6 and 26: the scene, prices and counts. */
public final class SceneTest {
    private static final Due DUE = new Due("SceneTest");

    public static void main(String[] args) {
        newObject();
        thing();
        thingRefused();
        paint();
        paintRefused();
        tie();
        looks();
        price();
        counts();
        DUE.end();
    }

    private static void newObject() {
        GreenDoor d = new GreenDoor();
        for (int what = 0; what < 5; what++) {
            DUE.is("promise 1: count " + what, d.count(what), 0);
        }
        DUE.is("promise 1: erase", d.erase(), 0);
        DUE.is("promise 1: hush", d.hush(), 0);
        for (int word = 0; word < 15; word++) {
            DUE.is("promise 1: price " + word, d.price(word, 2), 1);
        }
        GreenDoor other = new GreenDoor();
        d.thing(0, 0, 1, 0);
        DUE.is("promise 1: another object has its own scene", other.count(0), 0);
        DUE.is("promise 1: another object has its own prices", other.price(0, 1), 1);
    }

    private static void thing() {
        GreenDoor d = new GreenDoor();
        DUE.is("promise 2: first", d.thing(0, 3, 1, 15), 0);
        DUE.is("promise 2: second", d.thing(3, 0, 9, 0), 1);
        for (int i = 2; i < 8; i++) {
            DUE.is("promise 2: thing " + i, d.thing(1, 1, 1, i), i);
        }
        DUE.is("promise 2: a ninth", d.thing(1, 1, 1, 8), GreenDoor.FULL);
        DUE.is("promise 2: a ninth at a place taken", d.thing(1, 1, 1, 7), GreenDoor.NOT);
        DUE.is("promise 2: a ninth of no kind at a place taken", d.thing(4, 1, 1, 7), GreenDoor.OUTSIDE);
        DUE.is("promise 2: a ninth of no size", d.thing(1, 1, 0, 8), GreenDoor.OUTSIDE);
        DUE.is("promise 2: still eight", d.count(0), 8);
    }

    private static void thingRefused() {
        GreenDoor d = new GreenDoor();
        int[][] outside = {{-1, 0, 1, 0}, {4, 0, 1, 0}, {0, -1, 1, 0}, {0, 4, 1, 0}, {0, 0, 0, 0}, {0, 0, 10, 0},
            {0, 0, 1, -1}, {0, 0, 1, 16}, {Integer.MIN_VALUE, 0, 1, 0}, {0, 0, Integer.MAX_VALUE, 0}};
        for (int[] o : outside) {
            DUE.is("promise 2: outside", d.thing(o[0], o[1], o[2], o[3]), GreenDoor.OUTSIDE);
        }
        DUE.is("promise 2: none of them made", d.count(0), 0);
        DUE.is("promise 2: first", d.thing(0, 0, 1, 5), 0);
        DUE.is("promise 2: place taken", d.thing(1, 1, 2, 5), GreenDoor.NOT);
        DUE.is("promise 2: place taken, no colour", d.thing(1, 7, 2, 5), GreenDoor.OUTSIDE);
        DUE.is("promise 2: not changed", d.of(0, 0), 0);
    }

    private static void paint() {
        GreenDoor d = new GreenDoor();
        d.thing(1, 2, 3, 4);
        d.thing(0, 0, 1, 9);
        DUE.is("promise 3: kind was", d.paint(0, 0, 3), 1);
        DUE.is("promise 3: colour was", d.paint(0, 1, 0), 2);
        DUE.is("promise 3: size was", d.paint(0, 2, 9), 3);
        DUE.is("promise 3: marks were", d.paint(0, 3, 7), 0);
        DUE.is("promise 3: kind is", d.paint(0, 0, 0), 3);
        DUE.is("promise 3: colour is", d.paint(0, 1, 3), 0);
        DUE.is("promise 3: size is", d.paint(0, 2, 1), 9);
        DUE.is("promise 3: marks are", d.paint(0, 3, 0), 7);
        DUE.is("promise 3: place stays", d.of(0, 4), 4);
        DUE.is("promise 3: the other one stays", d.of(1, 2), 1);
    }

    private static void paintRefused() {
        GreenDoor d = new GreenDoor();
        DUE.is("promise 3: no thing", d.paint(0, 0, 0), GreenDoor.UNKNOWN);
        d.thing(1, 2, 3, 4);
        int[][] outside = {{-1, 0}, {4, 4}, {5, 0}, {0, -1}, {0, 4}, {1, -1}, {1, 4}, {2, 0}, {2, 10}, {3, -1}, {3, 8}};
        for (int[] o : outside) {
            DUE.is("promise 3: outside " + o[0] + " " + o[1], d.paint(0, o[0], o[1]), GreenDoor.OUTSIDE);
            DUE.is("promise 3: no thing, outside", d.paint(1, o[0], o[1]), GreenDoor.UNKNOWN);
            DUE.is("promise 3: no thing, outside", d.paint(-1, o[0], o[1]), GreenDoor.UNKNOWN);
        }
        for (int what = 0; what < 4; what++) {
            DUE.is("promise 3: not changed", d.of(0, what), new int[] {1, 2, 3, 0}[what]);
        }
    }

    private static void tie() {
        GreenDoor d = new GreenDoor();
        d.thing(0, 0, 1, 0);
        d.thing(0, 0, 1, 2);
        d.thing(0, 0, 1, 4);
        DUE.is("promise 4: first", d.tie(0, 1), 1);
        DUE.is("promise 4: back", d.tie(1, 0), 2);
        DUE.is("promise 4: there is one", d.tie(0, 1), GreenDoor.NOT);
        DUE.is("promise 4: third", d.tie(2, 0), 3);
        DUE.is("promise 4: itself", d.tie(2, 2), GreenDoor.UNKNOWN);
        DUE.is("promise 4: no such from", d.tie(3, 0), GreenDoor.UNKNOWN);
        DUE.is("promise 4: no such to", d.tie(0, 3), GreenDoor.UNKNOWN);
        DUE.is("promise 4: below 0", d.tie(-1, 0), GreenDoor.UNKNOWN);
        DUE.is("promise 4: below 0", d.tie(0, -1), GreenDoor.UNKNOWN);
        DUE.is("promise 4: still three", d.count(1), 3);
        GreenDoor full = new GreenDoor();
        for (int i = 0; i < 8; i++) {
            full.thing(0, 0, 1, i);
        }
        for (int i = 0; i < 56; i++) {
            int from = i / 7;
            int to = i % 7 < from ? i % 7 : i % 7 + 1;
            DUE.is("promise 4: all ties", full.tie(from, to), i + 1);
        }
        DUE.is("promise 4: one more", full.tie(7, 0), GreenDoor.NOT);
        DUE.is("promise 4: ties to all others", full.of(3, 6), 255 - 8);
    }

    private static void looks() {
        GreenDoor d = new GreenDoor();
        DUE.is("promise 5: no thing", d.of(0, 0), GreenDoor.UNKNOWN);
        d.thing(3, 2, 9, 7);
        d.thing(1, 0, 4, 9);
        d.thing(0, 0, 1, 8);
        d.thing(0, 0, 1, 15);
        d.thing(0, 0, 1, 0);
        d.paint(0, 3, 6);
        d.tie(0, 3);
        d.tie(0, 1);
        d.tie(2, 0);
        int[] first = {3, 2, 9, 6, 7, 4, 10};
        int[] third = {0, 0, 1, 0, 8, 3, 1};
        for (int what = 0; what < 7; what++) {
            DUE.is("promise 5: of 0 " + what, d.of(0, what), first[what]);
            DUE.is("promise 5: of 2 " + what, d.of(2, what), third[what]);
        }
        DUE.is("promise 5: the last place is not beside the first", d.of(3, 5), 0);
        DUE.is("promise 5: ties do not go back", d.of(3, 6), 0);
        DUE.is("promise 5: outside", d.of(0, -1), GreenDoor.OUTSIDE);
        DUE.is("promise 5: outside", d.of(0, 7), GreenDoor.OUTSIDE);
        DUE.is("promise 5: unknown first", d.of(5, 7), GreenDoor.UNKNOWN);
        DUE.is("promise 5: unknown", d.of(-1, 0), GreenDoor.UNKNOWN);
    }

    private static void price() {
        GreenDoor d = new GreenDoor();
        DUE.is("promise 6: cost 1", d.price(0, 9), 1);
        DUE.is("promise 6: cost 9", d.price(0, 1), 9);
        DUE.is("promise 6: the last word", d.price(14, 4), 1);
        DUE.is("promise 6: the last word again", d.price(14, 5), 4);
        DUE.is("promise 6: no word", d.price(15, 1), GreenDoor.OUTSIDE);
        DUE.is("promise 6: no word", d.price(-1, 1), GreenDoor.OUTSIDE);
        DUE.is("promise 6: no price", d.price(0, 0), GreenDoor.OUTSIDE);
        DUE.is("promise 6: no price", d.price(0, 10), GreenDoor.OUTSIDE);
        DUE.is("promise 6: not changed", d.price(0, 2), 1);
    }

    private static void counts() {
        GreenDoor d = new GreenDoor();
        for (int i = 0; i < 5; i++) {
            d.thing(0, 0, 1, i);
        }
        d.tie(0, 1);
        d.tie(1, 2);
        Due.tell(d, "all");
        d.keep();
        Due.tell(d, "kind 0 ");
        d.name(0);
        d.name(1);
        d.name(1);
        int[] counts = {5, 2, 7, 1, 3};
        for (int what = 0; what < 5; what++) {
            DUE.is("promise 26: count " + what, d.count(what), counts[what]);
        }
        DUE.is("promise 26: outside", d.count(5), GreenDoor.OUTSIDE);
        DUE.is("promise 26: outside", d.count(-1), GreenDoor.OUTSIDE);
    }
}

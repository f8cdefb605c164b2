/** Promises 22 to 25: talks, and what a mark is worth. */
public final class TalkTest {
    private static final Due DUE = new Due("TalkTest");
    private static final int ALL_WORDS = 32767;
    private static final int KIND = 2, COLOUR = 4, MARK = 8, AND = 32;

    public static void main(String[] args) {
        names();
        hushes();
        talks();
        talksByOther();
        talksCheaply();
        worth();
        bestMarks();
        bestMarkOfMany();
        DUE.end();
    }

    private static void names() {
        GreenDoor d = new GreenDoor();
        DUE.is("promise 22: no thing", d.name(0), GreenDoor.UNKNOWN);
        d.thing(0, 0, 1, 0);
        for (int i = 1; i <= 12; i++) {
            DUE.is("promise 22: named", d.name(0), i);
        }
        DUE.is("promise 22: full", d.name(0), GreenDoor.FULL);
        DUE.is("promise 22: unknown before full", d.name(1), GreenDoor.UNKNOWN);
        DUE.is("promise 22: unknown before full", d.name(-1), GreenDoor.UNKNOWN);
        DUE.is("promise 22: twelve", d.count(4), 12);
        DUE.is("promise 24: twelve times", d.talk(1), 12);
    }

    private static void hushes() {
        GreenDoor d = new GreenDoor();
        d.thing(0, 0, 1, 0);
        d.thing(0, 1, 1, 1);
        d.name(0);
        d.name(1);
        DUE.is("promise 23: two were named", d.hush(), 2);
        DUE.is("promise 23: none were named", d.hush(), 0);
        DUE.is("promise 23: anew", d.name(1), 1);
        d.price(2, 9);
        DUE.is("promise 23: nothing is named before", d.talk(COLOUR), 9);
    }

    private static void talk(GreenDoor d, int words, int want, int... things) {
        d.hush();
        for (int thing : things) {
            d.name(thing);
        }
        DUE.is("promise 24: talk " + java.util.Arrays.toString(things), d.talk(words), want);
    }

    private static void talks() {
        GreenDoor d = new GreenDoor();
        DUE.is("promise 24: nothing", d.talk(0), 0);
        DUE.is("promise 24: outside", d.talk(-1), GreenDoor.OUTSIDE);
        DUE.is("promise 24: outside", d.talk(32768), GreenDoor.OUTSIDE);
        d.thing(0, 0, 1, 0);
        d.thing(1, 0, 1, 1);
        d.thing(2, 0, 1, 2);
        d.price(1, 5);
        talk(d, KIND, 5, 0);
        talk(d, KIND, 6, 0, 0);
        talk(d, KIND, 7, 0, 0, 0);
        talk(d, KIND, 10, 0, 1);
        talk(d, KIND, 12, 0, 1, 0);
        talk(d, KIND, 11, 0, 1, 1);
        talk(d, COLOUR, GreenDoor.NONE, 0);
        talk(d, COLOUR, GreenDoor.NONE, 0, 1);
        d.paint(1, 1, 1);
        talk(d, COLOUR, 1, 1);
        talk(d, COLOUR, 2, 1, 1);
        talk(d, COLOUR, GreenDoor.NONE, 1, 0, 1);
    }

    private static void talksByOther() {
        GreenDoor d = new GreenDoor();
        d.thing(0, 0, 1, 0);
        d.thing(1, 0, 1, 1);
        d.thing(2, 0, 1, 2);
        d.price(1, 9);
        talk(d, KIND, 9 + 9 + 2 + 2, 0, 1, 0, 1);
        talk(d, KIND, 9 + 9 + 1 + 2, 0, 1, 1, 0);
        talk(d, KIND, 9 + 1 + 9 + 2, 0, 0, 1, 0);
        talk(d, KIND, 9 + 9 + 9 + 9, 0, 1, 2, 0);
        talk(d, KIND, 9 + 9 + 9 + 2, 0, 1, 2, 1);
        talk(d, KIND, 9 + 9 + 9 + 1 + 1 + 2 + 1 + 9 + 2, 0, 1, 2, 2, 2, 1, 1, 0, 1);
        talk(d, KIND, 9 + 9 + 2 + 1 + 2 + 9, 0, 1, 0, 0, 1, 2);
    }

    private static void talksCheaply() {
        GreenDoor d = new GreenDoor();
        d.thing(0, 0, 1, 0);
        d.thing(1, 0, 1, 1);
        talk(d, KIND, 4, 0, 1, 0, 1);
        d.price(1, 2);
        talk(d, KIND, 8, 0, 1, 0, 1);
        d.price(1, 3);
        talk(d, KIND, 10, 0, 1, 0, 1);
        talk(d, KIND, 4, 0, 0);
    }

    private static void worth(GreenDoor d, int words, int worth, int least, int best) {
        DUE.is("promise 25: worth " + words + " 0", d.worth(words, 0), worth);
        DUE.is("promise 25: worth " + words + " 1", d.worth(words, 1), least);
        DUE.is("promise 25: worth " + words + " 2", d.worth(words, 2), best);
    }

    private static void worth() {
        GreenDoor d = new GreenDoor();
        worth(d, ALL_WORDS, 0, GreenDoor.NONE, GreenDoor.NONE);
        int[][] outside = {{-1, 0}, {32768, 0}, {0, -1}, {0, 3}, {32768, 3}};
        for (int[] o : outside) {
            DUE.is("promise 25: outside", d.worth(o[0], o[1]), GreenDoor.OUTSIDE);
        }
        d.thing(0, 0, 1, 0);
        worth(d, 0, 50, 50, 0);
        worth(d, 1, 1, 1, 0);
        d.price(0, 9);
        worth(d, 1, 9, 9, 0);
        worth(d, 1 + MARK, 9, 1, 0);
        d.paint(0, 3, 1);
        worth(d, 1 + MARK, 1, 1, 1);
        worth(d, 1, 9, 9, 1);
        d.paint(0, 3, 6);
        worth(d, 1, 9, 9, 0);
        d.paint(0, 3, 3);
        worth(d, 1, 9, 9, 2);
        d.paint(0, 3, 7);
        worth(d, 1 + MARK, 1, GreenDoor.NONE, GreenDoor.NONE);
    }

    private static void bestMarks() {
        GreenDoor d = new GreenDoor();
        d.thing(0, 0, 1, 0);
        d.thing(0, 0, 1, 2);
        worth(d, MARK, 100, 51, 0);
        d.paint(0, 3, 1);
        worth(d, MARK, 51, 2, 5);
        d.paint(0, 3, 4);
        worth(d, MARK, 51, 2, 4);
        d.price(3, 7);
        worth(d, MARK, 57, 14, 4);
        d.paint(1, 3, 2);
        worth(d, MARK, 14, 14, 0);
        d.paint(0, 3, 7);
        worth(d, MARK, 57, 57, 4);
        DUE.is("promise 25: marks stay", d.of(0, 3) * 10 + d.of(1, 3), 72);
    }

    /** Worth is what the cheapest sayings cost; the best mark, put on its thing, makes it so. */
    private static void bestMarkOfMany() {
        GreenDoor d = new GreenDoor();
        int[][] things = {{0, 0, 2, 0}, {0, 0, 2, 1}, {0, 1, 2, 2}, {0, 1, 2, 3}, {1, 1, 5, 8}, {1, 1, 5, 9}};
        for (int[] t : things) {
            d.thing(t[0], t[1], t[2], t[3]);
        }
        d.tie(0, 4);
        for (int words : new int[] {ALL_WORDS, KIND + COLOUR + MARK + AND, 256 + MARK, 1 + 512 + 16, MARK + 16 + 64}) {
            int worth = 0;
            for (int i = 0; i < 6; i++) {
                int cost = d.cheapest(1 << i, words, -1);
                worth += cost == GreenDoor.NONE ? 50 : cost;
            }
            DUE.is("promise 25: worth " + words, d.worth(words, 0), worth);
            int best = -1;
            int least = Integer.MAX_VALUE;
            for (int i = 0; i < 6; i++) {
                for (int m = 0; m < 3; m++) {
                    d.paint(i, 3, 1 << m);
                    if (d.worth(words, 0) < least) {
                        least = d.worth(words, 0);
                        best = 4 * i + m;
                    }
                    d.paint(i, 3, 0);
                }
            }
            worth(d, words, worth, least, best);
        }
    }
}

/** Promises 13 to 16: cheapest sayings, sets, quick sayings and twins. */
public final class CheapestTest {
    private static final Due DUE = new Due("CheapestTest");
    private static final int ALL_WORDS = 32767;
    private static final int KIND = 2, COLOUR = 4, MARK = 8, NOT = 16, AND = 32, OR = 64, BUT = 128, TIED = 512;

    public static void main(String[] args) {
        cheapestRefused();
        noThings();
        firstByWords();
        firstByParts();
        changedScene();
        toldAsTexts();
        longChain();
        sets();
        quick();
        quickAlone();
        twinPath();
        twinTies();
        twinRounds();
        DUE.end();
    }

    private static void cheapest(GreenDoor d, int set, int words, int cost, int... codes) {
        String call = "promise 13: cheapest " + set + " " + words + " ";
        DUE.is(call + "-1", d.cheapest(set, words, -1), cost);
        DUE.is(call + "-2", d.cheapest(set, words, -2), codes.length == 0 ? GreenDoor.NONE : codes.length);
        for (int i = 0; i < codes.length; i++) {
            DUE.is(call + i, d.cheapest(set, words, i), codes[i]);
        }
        DUE.is(call + codes.length, d.cheapest(set, words, codes.length), GreenDoor.NONE);
        DUE.is(call + "far", d.cheapest(set, words, Integer.MAX_VALUE), GreenDoor.NONE);
    }

    private static void cheapestRefused() {
        GreenDoor d = new GreenDoor();
        d.thing(0, 0, 1, 0);
        d.thing(1, 0, 1, 2);
        int[][] outside = {{-1, 1, 0}, {4, 1, 0}, {Integer.MIN_VALUE, 1, 0}, {1, -1, 0}, {1, 32768, 0}, {1, 1, -3},
            {1, 1, Integer.MIN_VALUE}};
        for (int[] o : outside) {
            DUE.is("promise 13: outside", d.cheapest(o[0], o[1], o[2]), GreenDoor.OUTSIDE);
        }
        DUE.is("promise 13: none, but outside", d.cheapest(1, 0, -3), GreenDoor.OUTSIDE);
        cheapest(d, 1, 0, GreenDoor.NONE);
        cheapest(d, 1, COLOUR + NOT + AND + OR + BUT, GreenDoor.NONE);
        cheapest(d, 3, ALL_WORDS, 1, 0);
    }

    private static void noThings() {
        GreenDoor d = new GreenDoor();
        cheapest(d, 0, ALL_WORDS, 1, 0);
        cheapest(d, 0, MARK, 1, 24);
        cheapest(d, 0, NOT, GreenDoor.NONE);
        DUE.is("promise 13: no such thing", d.cheapest(1, ALL_WORDS, 0), GreenDoor.OUTSIDE);
        DUE.is("promise 14: the set of none", d.sets(ALL_WORDS), 1);
    }

    private static void firstByWords() {
        GreenDoor d = new GreenDoor();
        d.thing(0, 0, 1, 0);
        d.thing(1, 1, 2, 2);
        cheapest(d, 1, ALL_WORDS, 1, 8);
        cheapest(d, 2, ALL_WORDS, 1, 9);
        cheapest(d, 0, ALL_WORDS, 1, 10);
        cheapest(d, 0, MARK + BUT, 1, 24);
        d.price(1, 2);
        cheapest(d, 1, ALL_WORDS, 1, 16);
        cheapest(d, 1, KIND, 2, 8);
        cheapest(d, 0, KIND + NOT, 2, 10);
        d.price(2, 9);
        d.price(3, 9);
        cheapest(d, 1, ALL_WORDS, 2, 8);
        d.price(1, 5);
        // not, most, least, leftmost, second: of like cost the word with the least number is the first.
        cheapest(d, 1, ALL_WORDS, 2, 8 * 11, 0);
        cheapest(d, 2, ALL_WORDS, 2, 8 * 10, 0);
        cheapest(d, 0, ALL_WORDS, 2, 8 * 4, 0);
        cheapest(d, 0, ALL_WORDS - NOT, 2, 8 * 8, 0);
    }

    private static void firstByParts() {
        GreenDoor d = new GreenDoor();
        d.thing(0, 0, 1, 0);
        d.thing(0, 1, 1, 2);
        d.thing(1, 0, 1, 4);
        d.thing(1, 1, 1, 6);
        cheapest(d, 1, KIND + COLOUR + AND, 3, 40, 8, 16);
        cheapest(d, 2, KIND + COLOUR + AND, 3, 40, 8, 17);
        cheapest(d, 15, KIND + COLOUR + OR, 3, 48, 8, 9);
        cheapest(d, 7, KIND + COLOUR + OR, 3, 48, 8, 16);
        cheapest(d, 4, KIND + COLOUR + BUT, 3, 56, 9, 17);
        cheapest(d, 1, KIND + COLOUR + AND + BUT, 3, 40, 8, 16);
        d.price(5, 2);
        cheapest(d, 1, KIND + COLOUR + AND + BUT, 3, 56, 8, 17);
        d.price(5, 1);
        d.price(1, 3);
        // kind 0 is dearer than colour 0, but and kind 0 colour 0 costs as much as and colour 0 kind 0.
        cheapest(d, 1, KIND + COLOUR + AND, 5, 40, 8, 16);
        cheapest(d, 3, KIND + COLOUR + NOT, 3, 8);
        d.price(1, 9);
        cheapest(d, 3, KIND + NOT, 9, 8);
        cheapest(d, 15, KIND + NOT + OR, 10, 32, 10);
    }

    private static void changedScene() {
        GreenDoor d = new GreenDoor();
        d.thing(0, 0, 1, 0);
        d.thing(0, 0, 1, 2);
        int words = 1 + TIED + MARK + COLOUR;
        cheapest(d, 1, words, GreenDoor.NONE);
        d.tie(0, 1);
        cheapest(d, 1, words, 2, 72, 0);
        d.paint(0, 3, 4);
        cheapest(d, 1, words, 1, 26);
        d.price(3, 4);
        cheapest(d, 1, words, 2, 72, 0);
        d.paint(0, 1, 2);
        cheapest(d, 1, words, 1, 18);
        d.thing(0, 2, 1, 4);
        cheapest(d, 1, words, 2, 72, 0);
        DUE.is("promise 14: other words", d.sets(COLOUR), 3);
        cheapest(d, 1, words, 2, 72, 0);
    }

    private static GreenDoor crowd() {
        GreenDoor d = new GreenDoor();
        d.thing(0, 0, 1, 0);
        d.thing(0, 0, 2, 3);
        d.thing(0, 1, 2, 4);
        d.thing(1, 0, 3, 5);
        d.thing(1, 1, 3, 8);
        d.thing(1, 2, 9, 9);
        d.thing(2, 2, 9, 12);
        d.thing(2, 3, 1, 15);
        d.tie(0, 1);
        d.tie(1, 2);
        d.tie(5, 0);
        d.paint(3, 3, 7);
        d.paint(4, 3, 6);
        return d;
    }

    private static GreenDoor pricedCrowd() {
        GreenDoor d = crowd();
        for (int word = 0; word < 15; word++) {
            d.price(word, 1 + word * 5 % 7);
        }
        return d;
    }

    /** Each cheapest saying that a text can hold, told as one, means its set at its cost. */
    private static void toldAsTexts() {
        int told = 0;
        for (int words = ALL_WORDS; words > 0; words -= 3001) {
            for (int set = 0; set < 256; set++) {
                GreenDoor d = pricedCrowd();
                int length = d.cheapest(set, words, -2);
                if (length > 0 && length <= 24) {
                    toldAsText(d, set, words, length);
                    told++;
                }
            }
        }
        DUE.is("promise 13: many were told", told > 1000 ? 1 : 0, 1);
    }

    private static void toldAsText(GreenDoor d, int set, int words, int length) {
        StringBuilder text = new StringBuilder();
        for (int i = 0; i < length; i++) {
            int code = d.cheapest(set, words, i);
            text.append(PlainDoor.NAMES.get(code / 8)).append(' ');
            text.append(code >= 8 && code < 32 ? code % 8 + " " : "");
            DUE.is("promise 13: a word that is known", words >> code / 8 & 1, 1);
        }
        Due.tell(d, text.toString());
        DUE.is("promise 13: '" + text + "' means", d.says(0), set);
        DUE.is("promise 13: '" + text + "' costs", d.says(1), d.cheapest(set, words, -1));
        DUE.is("promise 13: '" + text + "' words", d.says(2), length);
    }

    /** Ties in a ring with a short cut: sayings of many more words than a text may have. */
    private static void longChain() {
        GreenDoor d = new GreenDoor();
        for (int i = 0; i < 8; i++) {
            d.thing(0, 0, 1, 2 * i);
        }
        for (int i = 0; i < 8; i++) {
            d.tie(i, (i + 1) % 8);
        }
        d.tie(0, 2);
        d.paint(0, 3, 1);
        int words = MARK + TIED + AND;
        DUE.is("promise 13: a long one", d.cheapest(85, words, -2), 157);
        DUE.is("promise 13: a long one's cost", d.cheapest(85, words, -1), 157);
        int due = 1;
        for (int i = 0; i < 157; i++) {
            int code = d.cheapest(85, words, i);
            due += code == 40 ? 1 : code == 24 ? -1 : 0;
            DUE.is("promise 13: its words", code == 40 || code == 24 || code == 72 ? 1 : 0, 1);
            DUE.is("promise 13: none is behind it", due > 0 || i == 156 ? 1 : 0, 1);
        }
        DUE.is("promise 13: it is whole", due, 0);
        DUE.is("promise 14: all of them", d.sets(words), 192);
        d.price(3, 9);
        d.price(5, 9);
        d.price(9, 9);
        cheapest(d, 85, words, GreenDoor.NONE);
        DUE.is("promise 14: none that costs more than 999", d.sets(words), 156);
        int dearest = 0;
        for (int set = 0; set < 256; set++) {
            dearest = Math.max(dearest, d.cheapest(set, words, -1));
        }
        DUE.is("promise 13: dear ones are counted", dearest <= 999 && dearest > 800 ? 1 : 0, 1);
        d.price(3, 3);
        d.price(5, 7);
        d.price(9, 8);
        DUE.is("promise 13: costs 999", d.cheapest(117, words, -1), 999);
        DUE.is("promise 14: with that of 999", d.sets(words), 191);
        d.price(3, 2);
        d.price(5, 9);
        cheapest(d, 117, words, GreenDoor.NONE);
        DUE.is("promise 14: without that of 1000", d.sets(words), 189);
    }

    private static void sets() {
        GreenDoor d = crowd();
        DUE.is("promise 14: no words", d.sets(0), 0);
        DUE.is("promise 14: all", d.sets(1), 1);
        DUE.is("promise 14: all, not", d.sets(1 + NOT), 2);
        DUE.is("promise 14: kinds", d.sets(KIND), 4);
        DUE.is("promise 14: colours", d.sets(COLOUR), 4);
        DUE.is("promise 14: kinds and not", d.sets(KIND + NOT), 8);
        DUE.is("promise 14: leftmost", d.sets(4096), 0);
        DUE.is("promise 14: all, leftmost", d.sets(4097), 2);
        DUE.is("promise 14: all, second", d.sets(8193), 3);
        DUE.is("promise 14: everything", d.sets(ALL_WORDS), 256);
        DUE.is("promise 14: outside", d.sets(-1), GreenDoor.OUTSIDE);
        DUE.is("promise 14: outside", d.sets(32768), GreenDoor.OUTSIDE);
    }

    private static void quick() {
        GreenDoor d = new GreenDoor();
        DUE.is("promise 15: no thing", d.quick(0), GreenDoor.UNKNOWN);
        int[][] things = {{0, 0, 0}, {0, 1, 1}, {1, 1, 1}, {0, 1, 3}, {0, 1, 0}};
        for (int i = 0; i < things.length; i++) {
            d.thing(things[i][0], things[i][1], 1, i);
            d.paint(i, 3, things[i][2]);
        }
        int[] plain = {3, 8, 1, 7, 6};
        for (int i = 0; i < 5; i++) {
            DUE.is("promise 15: quick " + i, d.quick(i), plain[i]);
        }
        for (int word = 0; word < 8; word++) {
            d.price(word, word + 1);
        }
        // kind 2, colour 3, mark 4, not 5, and 6
        int[] priced = {2 + 3 + 6, 2 + 3 + 4 + 9 + 18, 2, 2 + 3 + 4 + 4 + 18, 2 + 3 + 9 + 12};
        for (int i = 0; i < 5; i++) {
            DUE.is("promise 15: quick " + i + " by prices", d.quick(i), priced[i]);
        }
        d.paint(3, 3, 0);
        DUE.is("promise 15: another one is left", d.quick(3), GreenDoor.NONE);
        DUE.is("promise 15: another one is left", d.quick(4), GreenDoor.NONE);
        d.paint(3, 3, 4);
        DUE.is("promise 15: mark 2", d.quick(3), 2 + 3 + 4 + 12);
        DUE.is("promise 15: not mark 0, not mark 2", d.quick(4), 2 + 3 + 9 + 9 + 18);
        DUE.is("promise 15: unknown", d.quick(5), GreenDoor.UNKNOWN);
        DUE.is("promise 15: unknown", d.quick(-1), GreenDoor.UNKNOWN);
    }

    private static void quickAlone() {
        GreenDoor d = new GreenDoor();
        d.thing(2, 3, 1, 5);
        d.price(0, 7);
        DUE.is("promise 15: all alone", d.quick(0), 7);
        d.thing(2, 1, 1, 6);
        DUE.is("promise 15: the like kind is not said", d.quick(0), 1);
        d.paint(0, 3, 2);
        d.paint(1, 1, 3);
        DUE.is("promise 15: mark 1", d.quick(0), 1);
        DUE.is("promise 15: not mark 1", d.quick(1), 2);
    }

    private static void twin(GreenDoor d, int thing, int least, int round, int sorts) {
        DUE.is("promise 16: twin " + thing + " 0", d.twin(thing, 0), least);
        DUE.is("promise 16: twin " + thing + " 1", d.twin(thing, 1), round);
        DUE.is("promise 16: twin " + thing + " 2", d.twin(thing, 2), sorts);
    }

    private static void twinPath() {
        GreenDoor d = new GreenDoor();
        DUE.is("promise 16: unknown before outside", d.twin(0, 3), GreenDoor.UNKNOWN);
        for (int i = 0; i < 7; i++) {
            d.thing(1, 1, 1 + i, 5 + i);
        }
        twin(d, 0, 0, 1, 4);
        twin(d, 5, 1, 2, 4);
        twin(d, 4, 2, 3, 4);
        twin(d, 3, 3, 3, 4);
        d.thing(1, 1, 1, 0);
        twin(d, 7, 7, 1, 5);
        d.paint(0, 3, 2);
        twin(d, 0, 0, 0, 8);
        DUE.is("promise 16: outside", d.twin(0, 3), GreenDoor.OUTSIDE);
        DUE.is("promise 16: outside", d.twin(0, -1), GreenDoor.OUTSIDE);
        DUE.is("promise 16: unknown", d.twin(8, 0), GreenDoor.UNKNOWN);
        DUE.is("promise 16: unknown", d.twin(-1, 0), GreenDoor.UNKNOWN);
    }

    private static void twinTies() {
        GreenDoor d = new GreenDoor();
        d.thing(0, 0, 1, 0);
        d.thing(0, 0, 9, 2);
        d.thing(0, 1, 1, 4);
        twin(d, 0, 0, 0, 2);
        twin(d, 1, 0, 0, 2);
        twin(d, 2, 2, 0, 2);
        d.tie(2, 1);
        twin(d, 0, 0, 1, 3);
        twin(d, 1, 1, 1, 3);
        d.tie(2, 0);
        twin(d, 1, 0, 0, 2);
        d.tie(1, 2);
        twin(d, 1, 1, 1, 3);
        d.tie(0, 2);
        twin(d, 1, 0, 0, 2);
        d.tie(0, 1);
        twin(d, 1, 1, 1, 3);
        d.tie(1, 0);
        twin(d, 1, 0, 0, 2);
        d.paint(1, 0, 1);
        twin(d, 1, 1, 0, 3);
    }

    /** 0 and 1 tie to 2 and 3, which are alike but that 2 ties to 4. */
    private static void twinRounds() {
        GreenDoor d = new GreenDoor();
        for (int i = 0; i < 5; i++) {
            d.thing(i / 2, 0, 1, 3 * i);
        }
        d.tie(0, 2);
        d.tie(1, 3);
        twin(d, 1, 0, 0, 3);
        d.tie(2, 4);
        twin(d, 0, 0, 2, 5);
        twin(d, 1, 1, 2, 5);
        twin(d, 2, 2, 1, 5);
        twin(d, 3, 3, 1, 5);
        twin(d, 4, 4, 0, 5);
    }
}

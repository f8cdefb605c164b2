/** Edges of promises 13 to 16: cheapest sayings, sets, quick sayings and twins. */
final class CheapestEdges {
    private static final int NONE = GreenDoor.NONE, UNKNOWN = GreenDoor.UNKNOWN, OUTSIDE = GreenDoor.OUTSIDE;
    private static final int LOW = Integer.MIN_VALUE, HIGH = Integer.MAX_VALUE;
    private static final int ALL_WORDS = 32767;
    private static final int ALL = 1, KIND = 2, COLOUR = 4, MARK = 8, NOT = 16, AND = 32, OR = 64, TIED = 512;
    private static final int ONLY = 16384;

    private final Edges e;

    CheapestEdges(Edges edges) {
        e = edges;
    }

    void run() {
        knownWords();
        theseWordsAlone();
        firstByWords();
        noSaying();
        longAndDear();
        cheapestAnswers();
        cheapestRefused();
        sets();
        setsRefused();
        new QuickAndTwinEdges(e).run();
    }

    /** Checks all that is answered of a set; no codes if there is no saying for it. */
    private void cheapest(GreenDoor d, int set, int words, int... codes) {
        int length = codes.length == 0 ? NONE : codes.length;
        String call = "cheapest " + set + " with " + words + ", ";
        e.is(call + -2, d.cheapest(set, words, -2), length);
        for (int i = 0; i < codes.length; i++) {
            e.is(call + i, d.cheapest(set, words, i), codes[i]);
        }
        e.is(call + codes.length, d.cheapest(set, words, codes.length), NONE);
    }

    /** Three things such that each word of one or two parts can say what kind and colour alone can't. */
    private static GreenDoor three() {
        GreenDoor d = new GreenDoor();
        d.thing(0, 0, 1, 0);
        d.thing(0, 1, 2, 1);
        d.thing(1, 1, 3, 2);
        d.tie(1, 2);
        return d;
    }

    private void knownWords() {
        e.sentence(13, "WITH some WORDS (bits; those that a hearer knows)");
        int[] said = {7, 3, 1, 0};
        for (int word = 0; word < 4; word++) {
            cheapest(three(), said[word], 1 << word, 8 * word);
            cheapest(three(), said[word], 0);
        }
        int[] sets = {7, 2, 7, 2, 2, 2, 2, 2, 2, 2};
        for (int word = 4; word < 14; word++) {
            GreenDoor d = three();
            cheapest(d, sets[word - 4], KIND + COLOUR);
            e.is("word " + word + " is known", d.cheapest(sets[word - 4], KIND + COLOUR + (1 << word), 0), 8 * word);
            cheapest(d, sets[word - 4], 1 << word);
        }
        cheapest(three(), 0, ALL);
        cheapest(three(), 0, ALL + ONLY, 8 * 14, 0);
    }

    private void theseWordsAlone() {
        e.sentence(13, "of a set of THINGS the CHEAPEST SAYING that MEANS just it, of these WORDS alone");
        GreenDoor d = new GreenDoor();
        cheapest(d, 0, ALL, 0);
        cheapest(d, 0, NOT);
        Edges.fullScene(d);
        cheapest(d, 255, ALL_WORDS, 0);
        cheapest(d, 255, ALL_WORDS - ALL, 72, 8);
        cheapest(d, 255, KIND);
        cheapest(d, 255, KIND + OR, 48, 8, 48, 9, 48, 10, 11);
        cheapest(d, 0, KIND + OR);
    }

    private void firstByWords() {
        e.sentence(13, "of several of like cost the first by WORDS (by number; of one WORD by its own number)");
        GreenDoor d = new GreenDoor();
        d.thing(0, 0, 1, 0);
        d.thing(1, 1, 1, 2);
        d.paint(0, 3, 5);
        cheapest(d, 1, ALL_WORDS, 8);
        cheapest(d, 2, ALL_WORDS, 9);
        cheapest(d, 0, ALL_WORDS, 10);
        cheapest(d, 1, MARK, 24);
        cheapest(d, 0, MARK, 25);
        cheapest(d, 3, KIND + COLOUR + OR, 48, 8, 9);
        cheapest(d, 3, KIND + COLOUR + NOT + OR, 32, 10);
        cheapest(d, 3, ALL_WORDS - ALL, 32, 10);
        d.price(1, 2);
        cheapest(d, 1, ALL_WORDS, 16);
        d.price(2, 2);
        cheapest(d, 2, ALL_WORDS, 9);
        d.price(1, 3);
        cheapest(d, 2, ALL_WORDS, 17);
        d.price(2, 3);
        cheapest(d, 2, ALL_WORDS, 32, 24);
    }

    private void noSaying() {
        e.sentence(13, "none, if there is none.");
        GreenDoor d = new GreenDoor();
        Edges.alike(d, 0, 15);
        for (int i = -2; i < 3; i++) {
            e.is("the first of two alike, " + i, d.cheapest(1, 1023, i), NONE);
            e.is("none, with all alone, " + i, d.cheapest(0, ALL, i), NONE);
            e.is("with no words, " + i, d.cheapest(3, 0, i), NONE);
            e.is("with no word that stands alone, " + i, d.cheapest(3, ALL_WORDS - 15, i), NONE);
        }
    }

    /** Ties in a ring with a short cut: what kinds of words a saying needs shows in what it costs. */
    private static GreenDoor ring(int mark, int and, int tied) {
        GreenDoor d = new GreenDoor();
        Edges.alike(d, 0, 2, 4, 6, 8, 10, 12, 14);
        for (int i = 0; i < 8; i++) {
            d.tie(i, (i + 1) % 8);
        }
        d.tie(0, 2);
        d.paint(0, 3, 1);
        d.price(3, mark);
        d.price(5, and);
        d.price(9, tied);
        return d;
    }

    private void longAndDear() {
        e.sentence(13, "(Of any length; one that costs more than 999 is none.)");
        int words = MARK + AND + TIED;
        GreenDoor plain = ring(1, 1, 1);
        e.is("85 has words", plain.cheapest(85, words, -2), 157);
        e.is("85 costs", plain.cheapest(85, words, -1), 157);
        e.is("its first word", plain.cheapest(85, words, 0), 40);
        e.is("its last word", plain.cheapest(85, words, 156), 24);
        e.is("behind it", plain.cheapest(85, words, 157), NONE);
        GreenDoor last = ring(3, 7, 8);
        e.is("117 costs 999", last.cheapest(117, words, -1), 999);
        e.is("its last word", last.cheapest(117, words, last.cheapest(117, words, -2) - 1), 24);
        GreenDoor dear = ring(2, 9, 8);
        for (int i = -2; i < 2; i++) {
            e.is("117 costs 1000, " + i, dear.cheapest(117, words, i), NONE);
        }
        e.sentence(14, "(Of any length; one that costs more than 999 is none.)");
        e.is("all of them", plain.sets(words), 192);
        e.is("with that of 999", last.sets(words), 191);
        e.is("without that of 1000", dear.sets(words), 189);
    }

    private void cheapestAnswers() {
        e.sentence(13, "CHEAPEST for a set of THINGS WITH some WORDS: what it costs (i -1), how many WORDS it has (-2), or "
                + "its i-th WORD: 8 times its number and the number that belongs to it (0 without); NONE: there is none, or "
                + "it has not so many.");
        GreenDoor d = three();
        d.price(0, 9);
        d.price(1, 3);
        e.is("costs", d.cheapest(3, ALL_WORDS - COLOUR, -1), 3);
        e.is("words", d.cheapest(3, ALL_WORDS - COLOUR, -2), 1);
        e.is("the first word", d.cheapest(3, ALL_WORDS - COLOUR, 0), 8);
        for (int i : new int[] {1, 2, 24, HIGH}) {
            e.is("word " + i + " of one", d.cheapest(3, ALL_WORDS - COLOUR, i), NONE);
        }
        e.is("and kind 0 colour 1 costs", d.cheapest(2, KIND + COLOUR + AND, -1), 5);
        e.is("words", d.cheapest(2, KIND + COLOUR + AND, -2), 3);
        cheapest(d, 2, KIND + COLOUR + AND, 40, 8, 17);
        cheapest(d, 7, ALL, 0);
        e.is("all costs", d.cheapest(7, ALL, -1), 9);
        for (int i : new int[] {-2, -1, 0, 1, HIGH}) {
            e.is("there is none, " + i, d.cheapest(2, KIND, i), NONE);
        }
    }

    private void cheapestRefused() {
        e.sentence(13, "OUTSIDE: bits of no THINGS, WORDS (0 .. 32767), i below -2.");
        GreenDoor d = new GreenDoor();
        for (int things = 0; things < 8; things++) {
            e.is("all of " + things, d.cheapest((1 << things) - 1, ALL, 0), 0);
            e.is("one more than " + things, d.cheapest(1 << things, ALL, 0), OUTSIDE);
            d.thing(0, 0, 1, things);
        }
        e.is("all of eight", d.cheapest(255, ALL, 0), 0);
        e.is("one more than eight", d.cheapest(256, ALL, 0), OUTSIDE);
        e.is("all words", d.cheapest(255, 32767, 0), 0);
        e.is("no words", d.cheapest(255, 0, 0), NONE);
        for (int set : new int[] {-1, 8, 16, 9, LOW, HIGH}) {
            e.refused("set " + set, Edges::some, x -> x.cheapest(set, ALL_WORDS, 0), OUTSIDE);
        }
        for (int words : new int[] {-1, 32768, LOW, HIGH}) {
            e.refused("words " + words, Edges::some, x -> x.cheapest(7, words, 0), OUTSIDE);
        }
        for (int i : new int[] {-3, LOW}) {
            e.refused("i " + i, Edges::some, x -> x.cheapest(7, ALL_WORDS, i), OUTSIDE);
            e.refused("i " + i + ", there is none", Edges::some, x -> x.cheapest(7, 0, i), OUTSIDE);
        }
        e.refused("set 256 of eight", Edges::full, x -> x.cheapest(256, ALL_WORDS, -1), OUTSIDE);
    }

    private void sets() {
        e.sentence(14, "How many sets (that of none, too) there are that some SAYING WITH some WORDS MEANS.");
        GreenDoor empty = new GreenDoor();
        e.is("no things, no words", empty.sets(0), 0);
        e.is("no things, no word that stands alone", empty.sets(ALL_WORDS - 15), 0);
        e.is("no things, all", empty.sets(ALL), 1);
        e.is("no things, all words", empty.sets(ALL_WORDS), 1);
        GreenDoor one = new GreenDoor();
        Edges.alike(one, 15);
        e.is("a thing, no words", one.sets(0), 0);
        e.is("a thing, all", one.sets(ALL), 1);
        e.is("a thing, mark: that of none alone", one.sets(MARK), 1);
        e.is("a thing, all and not", one.sets(ALL + NOT), 2);
        e.is("a thing, all words", one.sets(ALL_WORDS), 2);
        GreenDoor eight = new GreenDoor();
        Edges.fullScene(eight);
        e.is("eight, no words", eight.sets(0), 0);
        e.is("eight, all words", eight.sets(ALL_WORDS), 256);
        e.is("eight, kinds", eight.sets(KIND), 4);
        e.is("eight, only all", eight.sets(ALL + ONLY), 2);
    }

    private void setsRefused() {
        e.sentence(14, "OUTSIDE.");
        for (int words : new int[] {-1, 32768, LOW, HIGH}) {
            e.refused("words " + words, Edges::some, d -> d.sets(words), OUTSIDE);
            e.refused("words " + words + ", no things", Edges::nothing, d -> d.sets(words), OUTSIDE);
        }
    }
}

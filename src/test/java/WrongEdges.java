/** Edges of promise 21: a saying heard with one word wrong. */
final class WrongEdges {
    private static final int NONE = GreenDoor.NONE, OUTSIDE = GreenDoor.OUTSIDE, NOT = GreenDoor.NOT;
    private static final int LOW = Integer.MIN_VALUE, HIGH = Integer.MAX_VALUE;

    private final Edges e;

    WrongEdges(Edges edges) {
        e = edges;
    }

    void run() {
        otherNumbers();
        otherWords();
        leastOfSeveral();
        notItself();
        noneThere();
        manyWords();
        wrongRefused();
    }

    private void wrong(GreenDoor d, String text, int likeliest, int many, int sayings) {
        Due.tell(d, text);
        e.is("likeliest of '" + text + "'", d.wrong(0), likeliest);
        e.is("how many mean it of '" + text + "'", d.wrong(1), many);
        e.is("sayings of '" + text + "'", d.wrong(2), sayings);
    }

    /** Thing i is of kind i and colour i; the fourth one has all marks but the last, the third one that alone. */
    private static GreenDoor four() {
        GreenDoor d = new GreenDoor();
        for (int i = 0; i < 4; i++) {
            d.thing(i, i, 1 + i, 5 - i);
        }
        d.paint(3, 3, 3);
        d.paint(2, 3, 4);
        return d;
    }

    private void otherNumbers() {
        e.sentence(21, "one WORD of a SAYING told as a text was heard wrong: kind, colour, mark may have another number;");
        int[] least = {2, 1, 1, 1};
        for (int number = 0; number < 4; number++) {
            wrong(four(), "kind " + number, least[number], 1, 3);
            wrong(four(), "colour " + number, least[number], 1, 3);
        }
        wrong(four(), "mark 0", 4, 1, 2);
        wrong(four(), "mark 1", 4, 1, 2);
        wrong(four(), "mark 2", 8, 2, 2);
        GreenDoor d = four();
        d.paint(3, 0, 0);
        wrong(d, "kind 0", 0, 1, 3);
        wrong(d, "kind 3", 2, 1, 3);
        d.paint(0, 0, 3);
        d.paint(1, 0, 3);
        d.paint(2, 0, 3);
        d.paint(3, 0, 3);
        wrong(d, "kind 0", 0, 2, 3);
        wrong(d, "kind 3", 0, 3, 3);
    }

    private void otherWords() {
        e.sentence(21, "and, or, but each may be one another; beside, tied; most, least; leftmost, second.");
        GreenDoor d = four();
        wrong(d, "and all not all", 15, 2, 2);
        wrong(d, "or all not all", 0, 1, 2);
        wrong(d, "but all not all", 0, 1, 2);
        wrong(d, "beside all", 0, 1, 1);
        wrong(d, "tied all", 15, 1, 1);
        wrong(d, "most all", 1, 1, 1);
        wrong(d, "least all", 8, 1, 1);
        wrong(d, "leftmost all", 4, 1, 1);
        wrong(d, "second all", 8, 1, 1);
        wrong(d, "not all", NONE, NONE, 0);
        wrong(d, "only all", NONE, NONE, 0);
        d.tie(0, 3);
        wrong(d, "beside leftmost all", 1, 1, 2);
        wrong(d, "tied second all", 1, 1, 2);
    }

    private void leastOfSeveral() {
        e.sentence(21, "LIKELIEST: the set that most of these SAYINGS (that itself not) MEAN; of several the least (bits).");
        GreenDoor d = four();
        wrong(d, "kind 0", 2, 1, 3);
        wrong(d, "kind 1", 1, 1, 3);
        wrong(d, "not kind 0", 7, 1, 3);
        wrong(d, "not kind 3", 11, 1, 3);
        d.paint(0, 0, 1);
        d.paint(1, 0, 2);
        d.paint(2, 0, 2);
        wrong(d, "kind 0", 1, 1, 3);
        wrong(d, "kind 3", 0, 1, 3);
        wrong(d, "leftmost kind 2", 0, 1, 4);
        d.paint(3, 0, 2);
        wrong(d, "kind 2", 0, 2, 3);
        wrong(d, "not kind 2", 15, 2, 3);
    }

    private void notItself() {
        e.sentence(21, "(that itself not)");
        GreenDoor d = new GreenDoor();
        Edges.alike(d, 0);
        wrong(d, "kind 3", 0, 2, 3);
        wrong(d, "kind 0", 0, 3, 3);
        wrong(d, "most all", 1, 1, 1);
        wrong(d, "and kind 0 kind 0", 0, 7, 8);
        Edges.alike(d, 2);
        wrong(d, "leftmost all", 2, 1, 1);
        wrong(d, "second all", 1, 1, 1);
    }

    private void noneThere() {
        e.sentence(21, "how many MEAN it (1), how many SAYINGS there are (2); NONE: there are none (0, 1).");
        wrong(four(), "all", NONE, NONE, 0);
        wrong(four(), "not all", NONE, NONE, 0);
        wrong(four(), "only not only all", NONE, NONE, 0);
        wrong(new GreenDoor(), "all", NONE, NONE, 0);
        wrong(new GreenDoor(), "kind 0", 0, 3, 3);
        wrong(four(), "beside all", 0, 1, 1);
        GreenDoor eight = new GreenDoor();
        Edges.alike(eight, 0, 1, 2, 3, 4, 5, 6, 7);
        wrong(eight, "least all", 255, 1, 1);
        wrong(eight, "not kind 0", 255, 3, 3);
    }

    private void manyWords() {
        e.sentence(21, "WRONG of THE TEXT: LIKELIEST (what 0)");
        GreenDoor d = four();
        String nots = "not ".repeat(23);
        wrong(d, nots + "kind 0", 7, 1, 3);
        wrong(d, "most ".repeat(23) + "all", 8, 22, 23);
        wrong(d, "or ".repeat(11) + "all ".repeat(11) + "not all", 15, 20, 22);
        wrong(d, "leftmost " + "not ".repeat(22) + "all", 4, 1, 1);
        Edges.fill(d, "leftmost all");
        e.is("of 160 bytes", d.wrong(0), 4);
        e.is("the text stays", d.count(2), 160);
        e.is("and means the same", d.says(0), 8);
        Edges.keep(d, "kind 0");
        Due.tell(d, "kind 1");
        d.wrong(0);
        e.is("nor is what is kept another one", d.kept(0, 0), 1);
    }

    private void wrongRefused() {
        e.sentence(21, "OUTSIDE; NOT: a FAULT.");
        for (int what : new int[] {-1, 3, LOW, HIGH}) {
            e.refused("what " + what, Edges::some, d -> d.wrong(what), OUTSIDE);
            e.refused("what " + what + ", a fault", Edges::someFaulty, d -> d.wrong(what), OUTSIDE);
            e.refused("what " + what + ", no text", Edges::nothing, d -> d.wrong(what), OUTSIDE);
        }
        for (int what = 0; what < 3; what++) {
            int w = what;
            e.refused("what " + what + ", a fault", Edges::someFaulty, d -> d.wrong(w), NOT);
            e.refused("what " + what + ", a fault at the end", Edges::fullFaulty, d -> d.wrong(w), NOT);
            e.refused("what " + what + ", no text", Edges::nothing, d -> d.wrong(w), NOT);
        }
    }
}

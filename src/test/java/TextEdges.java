/** Edges of promises 7 to 12: the text, its faults, what it means and what is kept of it. */
final class TextEdges {
    private static final int NONE = GreenDoor.NONE, UNKNOWN = GreenDoor.UNKNOWN, OUTSIDE = GreenDoor.OUTSIDE;
    private static final int NOT = GreenDoor.NOT, FULL = GreenDoor.FULL;
    private static final int LOW = Integer.MIN_VALUE, HIGH = Integer.MAX_VALUE;
    private static final String NOTS = "not ".repeat(23);

    private final Edges e;

    TextEdges(Edges edges) {
        e = edges;
    }

    void run() {
        writtenBytes();
        fullText();
        writeRefused();
        erases();
        blanks();
        tokens();
        numbers();
        wordNumbers();
        moreDigits();
        manyWords();
        theTwentyFifth();
        behind();
        tooSoon();
        faultPlaces();
        new MeaningEdges(e).run();
        costs();
        says();
        saysRefused();
        keeps();
        keepRefused();
        keptNow();
        keptRefused();
    }

    private void fault(String text, int want) {
        GreenDoor d = new GreenDoor();
        Due.tell(d, text);
        e.is("fault of '" + text + "'", d.fault(), want);
    }

    private void writtenBytes() {
        e.sentence(7, "n (1 .. 8) bytes more of THE TEXT, byte i being bytes >> 8 i & 255: how many it has.");
        GreenDoor d = new GreenDoor();
        e.is("the lowest of eight bytes", d.write(Due.bytes("all all "), 1), 1);
        e.is("two bytes, all others set", d.write(-1L << 16 | Due.bytes("ll"), 2), 3);
        e.is("only they are written", d.fault(), NONE);
        e.is("eight bytes", d.write(Due.bytes("       x"), 8), 11);
        e.is("the highest is the last", d.fault(), 10);
        d.erase();
        d.write(Due.bytes("all    \u00ff"), 8);
        e.is("a highest byte of 255", d.fault(), 7);
        d.erase();
        d.write(Due.bytes("all    \u0080"), 8);
        e.is("a highest byte of 128", d.fault(), 7);
        for (int n = 1; n <= 8; n++) {
            d.erase();
            e.is(n + " bytes", d.write(Due.bytes("        "), n), n);
            e.is(n + " blanks", d.fault(), n);
        }
    }

    private void fullText() {
        e.sentence(7, "THE TEXT is a row of bytes, 160 at most");
        for (int n = 1; n <= 8; n++) {
            GreenDoor d = new GreenDoor();
            Due.tell(d, "all" + " ".repeat(157 - n));
            e.is(n + " bytes up to 160", d.write(Due.bytes("        "), n), 160);
            e.is("one more", d.write(' ', 1), FULL);
            e.is("all is read", d.fault(), NONE);
            Due.tell(d, "all" + " ".repeat(158 - n));
            e.is(n + " bytes up to 161", d.write(Due.bytes("        "), n), FULL);
            e.is("none of them is written", d.count(2), 161 - n);
        }
        fault(" ".repeat(157) + "all", NONE);
        fault(" ".repeat(154) + "kind 3", NONE);
        fault(" ".repeat(154) + "kind 4", 159);
    }

    private void writeRefused() {
        e.sentence(7, "OUTSIDE; FULL.");
        for (int n : new int[] {0, 9, -1, LOW, HIGH}) {
            e.refused(n + " bytes", Edges::some, d -> d.write(Due.bytes("all"), n), OUTSIDE);
            e.refused(n + " bytes more than there may be", Edges::full, d -> d.write(' ', n), OUTSIDE);
        }
        for (int n = 1; n <= 8; n++) {
            int more = n;
            e.refused(n + " bytes behind 160", Edges::full, d -> d.write(0, more), FULL);
        }
    }

    private void erases() {
        e.sentence(8, "THE TEXT is empty: how many bytes it had.");
        GreenDoor d = new GreenDoor();
        e.is("an empty one", d.erase(), 0);
        Edges.fill(d, "all");
        e.is("a full one", d.erase(), 160);
        e.is("empty then", d.erase(), 0);
        e.is("bytes", d.count(2), 0);
        e.is("fault", d.fault(), 0);
        e.is("a byte more", d.write('a', 1), 1);
    }

    private void blanks() {
        e.sentence(9, "WORDS and numbers with blanks (32) between, as written here.");
        for (int b = 0; b < 256; b++) {
            fault("not" + (char) b + "all", b == ' ' ? NONE : isLetter(b) ? 0 : 3);
            fault((char) b + "all", b == ' ' ? NONE : 0);
            fault("all" + (char) b, b == ' ' ? NONE : isLetter(b) ? 0 : 3);
        }
        fault("notall", 0);
        fault("and kind 0 kind 1", NONE);
        fault("and kind0kind1", NONE);
        fault("   and   kind   0   kind   1   ", NONE);
        fault("ALL", 0);
        fault("alL", 0);
        fault("Not all", 0);
    }

    private static boolean isLetter(int b) {
        return b >= 'a' && b <= 'z';
    }

    private void tokens() {
        e.sentence(9, "A FAULT is at the first TOKEN (a row of small letters, a row of digits, any other byte) that cannot "
                + "stand there");
        for (int b = 0; b < 256; b++) {
            boolean isDigit = b >= '0' && b <= '9';
            fault("kind " + (char) b, b == ' ' ? 6 : b >= '0' && b <= '3' ? NONE : 5);
            fault("kind 1" + (char) b, b == ' ' ? NONE : isDigit ? 5 : 6);
            fault("not " + (char) b, b == ' ' ? 5 : 4);
            fault("not x" + (char) b + "x", 4);
            fault("0" + (char) b + "0", 0);
        }
        for (String name : PlainDoor.NAMES) {
            fault("not " + name + "x", 4);
            fault("not x" + name, 4);
            fault("not " + name.substring(1), 4);
            fault("not " + name.substring(0, name.length() - 1), 4);
        }
        fault("not leftmostsecond all", 4);
        fault("not andor all all", 4);
        fault("not ,,all", 4);
        fault("and any any", 4);
    }

    private void numbers() {
        e.sentence(9, "(S a SAYING, K, C 0 .. 3, M 0 .. 2; a number belongs to its WORD)");
        for (int number = 0; number < 10; number++) {
            fault("kind " + number, number <= 3 ? NONE : 5);
            fault("colour " + number, number <= 3 ? NONE : 7);
            fault("mark " + number, number <= 2 ? NONE : 5);
        }
        for (String word : new String[] {"all", "not", "and", "or", "but", "beside", "tied", "most", "least", "leftmost",
            "second", "only"}) {
            fault(word + " 0 all all", word.length() + 1);
        }
        fault("kind all", 5);
        fault("kind kind 0", 5);
        fault("0 kind", 0);
        fault("and kind 0 1 all", 11);
    }

    private void wordNumbers() {
        e.sentence(10, "WORDS, by numbers: 0 all; 1 kind K; 2 colour C; 3 mark M; 4 not S; 5 and S S; 6 or S S; 7 but S S; "
                + "8 beside S; 9 tied S; 10 most S; 11 least S; 12 leftmost S; 13 second S; 14 only S");
        String[] texts = {"all", "kind 0", "colour 0", "mark 0", "not all", "and all all", "or all all", "but all all",
            "beside all", "tied all", "most all", "least all", "leftmost all", "second all", "only all"};
        for (int word = 0; word < 15; word++) {
            GreenDoor d = new GreenDoor();
            d.price(word, 9);
            Due.tell(d, texts[word]);
            e.is("words of '" + texts[word] + "'", d.says(2), word < 4 ? 1 : word > 4 && word < 8 ? 3 : 2);
            e.is("costs of '" + texts[word] + "'", d.says(1), word < 4 ? 9 : word > 4 && word < 8 ? 11 : 10);
        }
    }

    private void moreDigits() {
        e.sentence(9, "(a number out of its bounds, or of more than one digit, also; the 25th WORD; what stands behind the "
                + "SAYING)");
        fault("kind 3", NONE);
        fault("kind 4", 5);
        fault("kind 00", 5);
        fault("kind 01", 5);
        fault("kind 10", 5);
        fault("kind 33", 5);
        fault("colour 03", 7);
        fault("mark 02", 5);
        fault("mark 20", 5);
        fault("kind " + "0".repeat(155), 5);
        fault("kind 4294967296", 5);
        fault("kind 0 0", 7);
        fault("and kind 00 all", 9);
    }

    private void manyWords() {
        e.sentence(10, "A SAYING is a row of WORDS, 24 at most, read from the first on");
        words("all", 1);
        words(NOTS + "all", 24);
        words(NOTS + "mark 2", 24);
        words("or ".repeat(11) + "not all" + " all".repeat(11), 24);
        words("and ".repeat(11) + "all ".repeat(12), 23);
        words("but all ".repeat(11) + "kind 3", 23);
        words("but all ".repeat(11) + "not kind 3", 24);
    }

    private void words(String text, int want) {
        GreenDoor d = new GreenDoor();
        Due.tell(d, text);
        e.is("words of '" + text + "'", d.says(2), want);
        e.is("costs of '" + text + "'", d.says(1), want);
        e.is("number of '" + text + "'", d.keep(), 0);
        e.is("words kept of '" + text + "'", d.kept(0, 2), want);
    }

    private void theTwentyFifth() {
        e.sentence(9, "the 25th WORD");
        fault(NOTS + "all", NONE);
        fault(NOTS + "not all", 96);
        fault(NOTS + "not not all", 96);
        fault(NOTS + "not kind 9", 96);
        fault(NOTS + "not any", 96);
        fault(NOTS + "not 1", 96);
        fault(NOTS + "any", 92);
        fault(NOTS + "kind 4", 97);
        fault("or ".repeat(11) + "all ".repeat(12), NONE);
        fault("or ".repeat(12) + "all ".repeat(12), 84);
        fault("or ".repeat(12) + "all ".repeat(11) + "kind 3 all", 87);
        fault("or ".repeat(25), 72);
        fault("but all ".repeat(12) + "all", 96);
    }

    private void behind() {
        e.sentence(9, "what stands behind the SAYING");
        fault("all all", 4);
        fault("all not", 4);
        fault("all any", 4);
        fault("all 0", 4);
        fault("all0", 3);
        fault("all.", 3);
        fault("kind 0 kind 1", 7);
        fault("kind 0kind 1", 6);
        fault("and all all all", 12);
        fault(NOTS + "all all", 96);
        fault(NOTS + "all 0", 96);
        fault(NOTS + "kind 0 ,", 99);
        fault("all" + " ".repeat(156) + "x", 159);
        fault("all" + " ".repeat(157), NONE);
    }

    private void tooSoon() {
        e.sentence(9, "or at the end, if it comes too soon");
        fault("", 0);
        fault(" ", 1);
        fault("not", 3);
        fault("not ", 4);
        fault("and all", 7);
        fault("and all ", 8);
        fault("kind", 4);
        fault("colour  ", 8);
        fault("and mark 0 mark", 15);
        fault(NOTS + "not", 95);
        fault(NOTS + "not ", 96);
        fault(NOTS + "kind", 96);
        fault(NOTS + "and", 95);
        fault(" ".repeat(160), 160);
        fault(" ".repeat(157) + "not", 160);
        fault(" ".repeat(156) + "kind", 160);
    }

    private void faultPlaces() {
        e.sentence(9, "The place of the FAULT (the byte with which the TOKEN begins, or the length); NONE.");
        fault("x", 0);
        fault("xyz", 0);
        fault("   xyz", 3);
        fault("kind 123", 5);
        fault("kind   123", 7);
        fault("kind123", 4);
        fault("all   ???", 6);
        fault(" ".repeat(159) + "x", 159);
        fault(" ".repeat(150) + "x".repeat(10), 150);
        fault(" ".repeat(159), 159);
        fault(" ".repeat(160), 160);
        fault("", 0);
        fault("all", NONE);
        GreenDoor d = new GreenDoor();
        d.fault();
        e.is("the empty text stays", d.count(2), 0);
        for (String faulty : new String[] {"kind", "mark x", "and all", "all all", NOTS + "not"}) {
            Due.tell(d, faulty);
            e.is("'" + faulty + "' has a fault", d.fault() == NONE ? 1 : 0, 0);
            Due.tell(d, "all");
            e.is("a text behind '" + faulty + "' has none", d.fault(), NONE);
        }
        Due.tell(d, "kind");
        e.is("a text that ends too soon", d.fault(), 4);
        Due.append(d, " 0");
        e.is("is mended by what comes behind", d.fault(), NONE);
    }

    private void costs() {
        e.sentence(10, "a SAYING what its WORDS cost together");
        GreenDoor d = new GreenDoor();
        Due.tell(d, NOTS + "all");
        e.is("24 words at first", d.says(1), 24);
        d.price(0, 9);
        d.price(4, 9);
        e.is("24 words of 9", d.says(1), 24 * 9);
        Due.tell(d, "all");
        e.is("one of 9", d.says(1), 9);
        d.price(0, 1);
        e.is("one of 1", d.says(1), 1);
    }

    private void says() {
        e.sentence(10, "What THE TEXT MEANS, by bits (what 0), costs (1), how many WORDS it has (2); it stays.");
        GreenDoor d = new GreenDoor();
        Due.tell(d, "all");
        e.is("no things", d.says(0), 0);
        Edges.fullScene(d);
        e.is("eight things", d.says(0), 255);
        e.is("costs", d.says(1), 1);
        e.is("words", d.says(2), 1);
        Edges.fill(d, "only leftmost all");
        e.is("a full text means", d.says(0), 1);
        e.is("a full text costs", d.says(1), 3);
        e.is("a full text has words", d.says(2), 3);
        e.is("it stays", d.count(2), 160);
    }

    private void saysRefused() {
        e.sentence(10, "OUTSIDE; NOT: a FAULT.");
        for (int what : new int[] {-1, 3, LOW, HIGH}) {
            e.refused("what " + what, Edges::some, d -> d.says(what), OUTSIDE);
            e.refused("what " + what + ", a fault", Edges::someFaulty, d -> d.says(what), OUTSIDE);
            e.refused("what " + what + ", no text", Edges::nothing, d -> d.says(what), OUTSIDE);
        }
        for (int what = 0; what < 3; what++) {
            int w = what;
            e.refused("what " + what + ", a fault", Edges::someFaulty, d -> d.says(w), NOT);
            e.refused("what " + what + ", a fault at the end", Edges::fullFaulty, d -> d.says(w), NOT);
            e.refused("what " + what + ", no text", Edges::nothing, d -> d.says(w), NOT);
        }
    }

    private void keeps() {
        e.sentence(11, "THE TEXT is kept as a SAYING, and is empty then: its number.");
        GreenDoor d = new GreenDoor();
        for (int i = 0; i < 8; i++) {
            Edges.fill(d, i < 4 ? "kind " + i : "colour " + (i - 4));
            e.is("number", d.keep(), i);
            e.is("empty then", d.count(2), 0);
            e.is("how many", d.count(3), i + 1);
        }
        Edges.fullScene(d);
        e.is("the first one", d.kept(0, 0), 3);
        e.is("the eighth one", d.kept(7, 0), colour3());
    }

    /** Those of colour 3 in a full scene: thing i is of colour 3 i, by fours. */
    private static int colour3() {
        return 2 + 32;
    }

    private void keepRefused() {
        e.sentence(11, "NOT: a FAULT; FULL.");
        e.refused("no text", Edges::nothing, d -> d.keep(), NOT);
        e.refused("a fault behind the saying", Edges::someFaulty, d -> d.keep(), NOT);
        e.refused("a ninth", Edges::full, d -> d.keep(), FULL);
        e.refused("a ninth, a fault", Edges::fullFaulty, d -> d.keep(), NOT);
        GreenDoor d = new GreenDoor();
        Edges.full(d);
        d.keep();
        e.is("the text is not emptied", d.count(2), 160);
        e.is("and has no fault", d.fault(), NONE);
    }

    private void keptNow() {
        e.sentence(12, "A kept SAYING: what it MEANS now (what 0), costs (1), its WORDS (2).");
        GreenDoor d = new GreenDoor();
        Edges.keep(d, NOTS + "colour 3");
        e.is("no things", d.kept(0, 0), 0);
        e.is("costs", d.kept(0, 1), 24);
        e.is("words", d.kept(0, 2), 24);
        Edges.fullScene(d);
        e.is("eight things", d.kept(0, 0), 255 - colour3());
        d.paint(1, 1, 0);
        e.is("one is painted", d.kept(0, 0), 255 - 32);
        d.price(4, 9);
        d.price(2, 9);
        e.is("costs now", d.kept(0, 1), 24 * 9);
        e.is("words still", d.kept(0, 2), 24);
    }

    private void keptRefused() {
        e.sentence(12, "UNKNOWN; OUTSIDE.");
        for (int saying : new int[] {-1, 2, LOW, HIGH}) {
            e.refused("saying " + saying, Edges::some, d -> d.kept(saying, 0), UNKNOWN);
            e.refused("saying " + saying + ", what 3", Edges::some, d -> d.kept(saying, 3), UNKNOWN);
            e.refused("saying " + saying + ", what -1", Edges::some, d -> d.kept(saying, -1), UNKNOWN);
        }
        e.refused("saying 0 of none", Edges::nothing, d -> d.kept(0, 0), UNKNOWN);
        e.refused("saying 8 of eight", Edges::full, d -> d.kept(8, 0), UNKNOWN);
        for (int what : new int[] {-1, 3, LOW, HIGH}) {
            e.refused("what " + what, Edges::some, d -> d.kept(0, what), OUTSIDE);
            e.refused("what " + what + " of the eighth", Edges::full, d -> d.kept(7, what), OUTSIDE);
        }
    }
}

/** Edges of promises 17 to 20: what breaks a saying, and hearers who think. */
final class ThoughtEdges {
    private static final int NONE = GreenDoor.NONE, UNKNOWN = GreenDoor.UNKNOWN, OUTSIDE = GreenDoor.OUTSIDE;
    private static final int NOT = GreenDoor.NOT;
    private static final int LOW = Integer.MIN_VALUE, HIGH = Integer.MAX_VALUE;

    private final Edges e;

    ThoughtEdges(Edges edges) {
        e = edges;
    }

    void run() {
        firstChange();
        breaksAnswers();
        breaksRefused();
        keptByNumbers();
        noThoughts();
        fewestThenCheapestThenLeast();
        noneToSay();
        saidOfNone();
        hearsRefused();
        tellsRefused();
        ends();
        endsOfMany();
    }

    private void breaks(GreenDoor d, String text, int want) {
        Due.tell(d, text);
        e.is("breaks of '" + text + "'", d.breaks(), want);
    }

    private void firstChange() {
        e.sentence(17, "the first such change (by THINGS, then COLOURS) after which it does not MEAN what it does.");
        GreenDoor d = new GreenDoor();
        Edges.alike(d, 0, 2);
        breaks(d, "colour 0", 1);
        breaks(d, "colour 1", 1);
        breaks(d, "colour 3", 3);
        d.paint(0, 1, 1);
        breaks(d, "colour 0", 0);
        breaks(d, "colour 1", 0);
        breaks(d, "colour 2", 2);
        d.paint(0, 1, 3);
        breaks(d, "colour 3", 0);
        breaks(d, "and second all colour 0", 5);
        breaks(d, "and second all colour 3", 7);
        d.paint(1, 1, 1);
        breaks(d, "and second all colour 1", 4);
        breaks(d, "and second all colour 0", 4);
        breaks(d, "only colour 3", 0);
        breaks(d, "only colour 1", 1);
        breaks(d, "only colour 2", 2);
    }

    private void breaksAnswers() {
        e.sentence(17, "PAINTED of THE TEXT: 4 times the THING and the COLOUR; NONE: whatever is painted it MEANS the same.");
        GreenDoor d = new GreenDoor();
        breaks(d, "colour 0", NONE);
        Edges.fullScene(d);
        d.paint(0, 1, 1);
        breaks(d, "colour 0", 0);
        breaks(d, "and mark 0 and mark 1 and mark 2 colour 3", 31);
        breaks(d, "and mark 0 and mark 1 and mark 2 colour 0", 28);
        breaks(d, "all", NONE);
        breaks(d, "kind 3", NONE);
        breaks(d, "not most beside tied mark 0", NONE);
        breaks(d, "but colour 3 all", NONE);
        breaks(d, "or or colour 0 colour 1 or colour 2 colour 3", NONE);
        breaks(d, "only or colour 0 all", NONE);
        int[] colours = {1, 3, 2, 1, 0, 3, 2, 1};
        for (int i = 0; i < 8; i++) {
            e.is("colour of " + i + " stays", d.of(i, 1), colours[i]);
        }
        e.is("the text stays", d.count(2), "only or colour 0 all".length());
        Due.tell(d, "not ".repeat(23) + "colour 3");
        e.is("of 24 words", d.breaks(), 3);
        Edges.fill(d, "colour 3");
        e.is("of 160 bytes", d.breaks(), 3);
    }

    private void breaksRefused() {
        e.sentence(17, "NOT: a FAULT.");
        e.refused("no text", Edges::nothing, d -> d.breaks(), NOT);
        e.refused("a fault behind the saying", Edges::someFaulty, d -> d.breaks(), NOT);
        e.refused("a fault at the end", Edges::fullFaulty, d -> d.breaks(), NOT);
    }

    private void keptByNumbers() {
        e.sentence(11, "SAYINGS are kept by numbers, 8 at most.");
        GreenDoor d = new GreenDoor();
        Edges.fullScene(d);
        for (int i = 0; i < 8; i++) {
            String text = "and and " + mark(i, 0) + mark(i, 1) + mark(i, 2);
            Due.tell(d, text);
            e.is("number of '" + text + "'", d.keep(), i);
        }
        Due.tell(d, "all");
        e.is("a ninth", d.keep(), GreenDoor.FULL);
        for (int i = 0; i < 8; i++) {
            e.is("means " + i, d.kept(i, 0), 1 << i);
            e.is("heard " + i, d.hears(i, 20), 1 << i);
            e.is("told " + i, d.tells(i, 20), i);
        }
        e.is("the ninth", d.hears(8, 0), UNKNOWN);
    }

    private static String mark(int marks, int mark) {
        return ((marks >> mark & 1) == 1 ? "mark " : "not mark ") + mark + " ";
    }

    /** Two things, and three more of another kind; "all" and "kind 0" are kept. */
    private static GreenDoor door() {
        GreenDoor d = new GreenDoor();
        Edges.alike(d, 0, 2);
        for (int i = 0; i < 3; i++) {
            d.thing(1, 1, 1, 4 + 2 * i);
        }
        Edges.keep(d, "all");
        Edges.keep(d, "kind 0");
        return d;
    }

    private void noThoughts() {
        e.sentence(18, "At 0 thoughts a hearer takes each for all that it MEANS.");
        GreenDoor d = door();
        e.is("all", d.hears(0, 0), 31);
        e.is("kind 0", d.hears(1, 0), 3);
        e.is("all, at 1", d.hears(0, 1), 28);
        e.is("kind 0, at 1", d.hears(1, 1), 3);
        Edges.keep(d, "but all all");
        e.is("nothing", d.hears(2, 0), 0);
        e.is("nothing, at 20", d.hears(2, 20), 0);
        GreenDoor empty = new GreenDoor();
        Edges.keep(empty, "all");
        e.is("all of no things", empty.hears(0, 0), 0);
        e.is("all of no things, at 20", empty.hears(0, 20), 0);
    }

    private void fewestThenCheapestThenLeast() {
        e.sentence(19, "says of kept SAYINGS that are taken for that THING, too, the one taken for the fewest; of several the "
                + "cheapest, then the least; none, if there is no such.");
        GreenDoor d = door();
        e.is("the fewest", d.tells(0, 0), 1);
        e.is("all alone", d.tells(2, 0), 0);
        e.is("the last thing", d.tells(4, 0), 0);
        Edges.keep(d, "not kind 1");
        Edges.keep(d, "colour 0");
        e.is("the cheapest of two things, the first of two as cheap", d.tells(0, 0), 1);
        d.price(1, 2);
        e.is("the cheapest of two things", d.tells(0, 0), 3);
        d.price(2, 2);
        e.is("the least of those that cost 2", d.tells(0, 0), 1);
        d.price(1, 9);
        d.price(2, 9);
        e.is("dear ones that are taken for fewer than a cheap one", d.tells(0, 0), 1);
        Edges.keep(d, "leftmost colour 0");
        e.is("the dearest, taken for the fewest", d.tells(0, 0), 4);
        e.is("not for the other one", d.tells(1, 0), 1);
        e.is("those left are heard", d.hears(1, 1), 2);
    }

    private void noneToSay() {
        e.sentence(19, "Which kept SAYING a speaker says of a THING to a hearer so many thoughts deep; NONE.");
        GreenDoor d = new GreenDoor();
        Edges.alike(d, 0, 2);
        e.is("nothing is kept", d.tells(0, 0), NONE);
        Edges.keep(d, "leftmost all");
        for (int thoughts = 0; thoughts <= 20; thoughts++) {
            e.is("said at " + thoughts, d.tells(0, thoughts), 0);
            e.is("not taken for it at " + thoughts, d.tells(1, thoughts), NONE);
        }
        Edges.keep(d, "kind 3");
        e.is("nor is one of none", d.tells(1, 20), NONE);
        Edges.keep(d, "all");
        e.is("the third is", d.tells(1, 0), 2);
    }

    private void saidOfNone() {
        e.sentence(18, "A hearer one thought deeper takes a SAYING for those THINGS of which such a speaker would say it; if "
                + "there is none, as one of a thought less does.");
        GreenDoor d = door();
        Edges.keep(d, "or kind 0 second kind 1");
        Edges.keep(d, "not kind 0");
        for (int thoughts = 1; thoughts <= 20; thoughts++) {
            e.is("said of none at " + thoughts, d.hears(0, thoughts), 31);
            e.is("said of all that it means at " + thoughts, d.hears(1, thoughts), 3);
            e.is("said of none at " + thoughts, d.hears(2, thoughts), 11);
            e.is("said of all that it means at " + thoughts, d.hears(3, thoughts), 28);
        }
        Edges.keep(d, "leftmost all");
        e.is("said of one of two", d.hears(1, 1), 2);
        e.is("said of one of two", d.hears(1, 20), 2);
        e.is("the one", d.hears(4, 1), 1);
    }

    private void hearsRefused() {
        e.sentence(18, "What a hearer, so many thoughts deep (0 .. 20), takes a kept SAYING for, by bits. UNKNOWN; OUTSIDE.");
        GreenDoor d = door();
        e.is("at 0", d.hears(0, 0), 31);
        e.is("at 20", d.hears(0, 20), 28);
        e.is("at 21", d.hears(0, 21), OUTSIDE);
        e.is("at -1", d.hears(0, -1), OUTSIDE);
        for (int saying : new int[] {-1, 2, LOW, HIGH}) {
            e.refused("saying " + saying, Edges::some, x -> x.hears(saying, 0), UNKNOWN);
            e.refused("saying " + saying + " at 21", Edges::some, x -> x.hears(saying, 21), UNKNOWN);
            e.refused("saying " + saying + " at -1", Edges::some, x -> x.hears(saying, -1), UNKNOWN);
        }
        for (int thoughts : new int[] {-1, 21, LOW, HIGH}) {
            e.refused("at " + thoughts, Edges::some, x -> x.hears(1, thoughts), OUTSIDE);
        }
        e.refused("saying 0 of none", Edges::nothing, x -> x.hears(0, 0), UNKNOWN);
        e.refused("saying 8 of eight", Edges::full, x -> x.hears(8, 0), UNKNOWN);
        e.refused("the eighth at 21", Edges::full, x -> x.hears(7, 21), OUTSIDE);
    }

    private void tellsRefused() {
        e.sentence(19, "UNKNOWN; OUTSIDE.");
        GreenDoor d = door();
        e.is("at 0", d.tells(4, 0), 0);
        e.is("at 20", d.tells(4, 20), 0);
        e.is("at 21", d.tells(4, 21), OUTSIDE);
        e.is("at -1", d.tells(4, -1), OUTSIDE);
        for (int thing : new int[] {-1, 3, LOW, HIGH}) {
            e.refused("thing " + thing, Edges::some, x -> x.tells(thing, 0), UNKNOWN);
            e.refused("thing " + thing + " at 21", Edges::some, x -> x.tells(thing, 21), UNKNOWN);
            e.refused("thing " + thing + " at -1", Edges::some, x -> x.tells(thing, -1), UNKNOWN);
        }
        for (int thoughts : new int[] {-1, 21, LOW, HIGH}) {
            e.refused("at " + thoughts, Edges::some, x -> x.tells(0, thoughts), OUTSIDE);
            e.refused("at " + thoughts + ", nothing kept", y -> y.thing(0, 0, 1, 0), x -> x.tells(0, thoughts), OUTSIDE);
        }
        e.refused("thing 0 of none", Edges::nothing, x -> x.tells(0, 0), UNKNOWN);
        e.refused("thing 8 of eight", Edges::full, x -> x.tells(8, 0), UNKNOWN);
    }

    private void ends() {
        e.sentence(20, "ENDS: the least number of thoughts (20 at most) from which on nothing changes; none.");
        GreenDoor d = new GreenDoor();
        e.is("nothing kept, no things", d.ends(), 0);
        Edges.alike(d, 0, 2);
        e.is("nothing kept", d.ends(), 0);
        Edges.keep(d, "all");
        e.is("said of all that it means", d.ends(), 0);
        Edges.keep(d, "not all");
        e.is("another one never said", d.ends(), 0);
        Edges.keep(d, "leftmost all");
        e.is("all is taken for one thing then", d.ends(), 1);
        Edges.keep(d, "second all");
        e.is("all is not said any more", d.ends(), 0);
    }

    /** By the document's words no scene needs more than one thought; from there on nothing changes, up to 20. */
    private void endsOfMany() {
        e.sentence(20, "ENDS; NONE.");
        java.util.Random random = new java.util.Random(20);
        String[] words = {"leftmost ", "second ", "not ", "beside ", "most ", "least "};
        for (int scene = 0; scene < 60; scene++) {
            GreenDoor d = new GreenDoor();
            for (int i = 0; i < 8; i++) {
                d.thing(random.nextInt(2), random.nextInt(3), 1 + random.nextInt(3), 2 * i + random.nextInt(2));
            }
            for (int i = 0; i < 8; i++) {
                Edges.keep(d, words[random.nextInt(6)] + "or kind " + random.nextInt(2) + " colour " + random.nextInt(3));
            }
            int ends = d.ends();
            boolean changes = false;
            for (int saying = 0; saying < 8; saying++) {
                changes |= d.hears(saying, 0) != d.hears(saying, 1);
                for (int thoughts = ends; thoughts < 20; thoughts++) {
                    e.is("saying " + saying + " after " + thoughts, d.hears(saying, thoughts + 1), d.hears(saying, ends));
                }
            }
            e.is("ends of scene " + scene, ends, changes ? 1 : 0);
        }
    }
}

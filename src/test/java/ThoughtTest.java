/** Promises 17 to 21: what breaks a saying, hearers who think, and words heard wrong. */
public final class ThoughtTest {
    private static final Due DUE = new Due("ThoughtTest");

    public static void main(String[] args) {
        breaks();
        hearsRefused();
        thinks();
        choosesBySizeAndCost();
        ends();
        wrong();
        wrongSets();
        wrongOfEight();
        DUE.end();
    }

    private static void breaks(GreenDoor d, String text, int want) {
        Due.tell(d, text);
        DUE.is("promise 17: breaks of '" + text + "'", d.breaks(), want);
    }

    private static void breaks() {
        GreenDoor d = new GreenDoor();
        breaks(d, "colour 0", GreenDoor.NONE);
        d.thing(0, 0, 1, 0);
        d.thing(1, 1, 2, 1);
        d.thing(1, 3, 2, 2);
        breaks(d, "colour 0", 1);
        breaks(d, "colour 1", 1);
        breaks(d, "colour 2", 2);
        breaks(d, "colour 3", 3);
        breaks(d, "kind 1", GreenDoor.NONE);
        breaks(d, "and kind 1 colour 1", 4);
        breaks(d, "and kind 1 colour 2", 6);
        breaks(d, "and second kind 1 colour 3", 8);
        breaks(d, "and second kind 1 colour 0", 8);
        breaks(d, "most colour 1", 4);
        breaks(d, "least colour 3", 3);
        breaks(d, "only colour 2", 2);
        breaks(d, "or all colour 2", GreenDoor.NONE);
        breaks(d, "or or colour 0 colour 1 or colour 2 colour 3", GreenDoor.NONE);
        breaks(d, "and all", GreenDoor.NOT);
        breaks(d, "", GreenDoor.NOT);
        DUE.is("promise 17: colours stay", d.of(0, 1) * 100 + d.of(1, 1) * 10 + d.of(2, 1), 13);
        Due.tell(d, "colour 3");
        DUE.is("promise 17: the text stays", d.breaks() + d.says(0), 3 + 4);
    }

    private static void keep(GreenDoor d, String text) {
        Due.tell(d, text);
        d.keep();
    }

    private static void hearsRefused() {
        GreenDoor d = new GreenDoor();
        DUE.is("promise 18: nothing is kept", d.hears(0, 0), GreenDoor.UNKNOWN);
        DUE.is("promise 18: unknown before outside", d.hears(0, 21), GreenDoor.UNKNOWN);
        DUE.is("promise 19: no thing", d.tells(0, 0), GreenDoor.UNKNOWN);
        DUE.is("promise 19: unknown before outside", d.tells(0, -1), GreenDoor.UNKNOWN);
        DUE.is("promise 20: nothing changes", d.ends(), 0);
        keep(d, "all");
        d.thing(0, 0, 1, 0);
        DUE.is("promise 18: below 0", d.hears(-1, 0), GreenDoor.UNKNOWN);
        DUE.is("promise 18: outside", d.hears(0, 21), GreenDoor.OUTSIDE);
        DUE.is("promise 18: outside", d.hears(0, -1), GreenDoor.OUTSIDE);
        DUE.is("promise 18: 20 thoughts", d.hears(0, 20), 1);
        DUE.is("promise 19: below 0", d.tells(-1, 0), GreenDoor.UNKNOWN);
        DUE.is("promise 19: outside", d.tells(0, 21), GreenDoor.OUTSIDE);
        DUE.is("promise 19: outside", d.tells(0, -1), GreenDoor.OUTSIDE);
        DUE.is("promise 19: 20 thoughts", d.tells(0, 20), 0);
    }

    private static void hears(GreenDoor d, int thoughts, int... sets) {
        for (int i = 0; i < sets.length; i++) {
            DUE.is("promise 18: hears " + i + " " + thoughts, d.hears(i, thoughts), sets[i]);
        }
    }

    private static void tells(GreenDoor d, int thoughts, int... sayings) {
        for (int i = 0; i < sayings.length; i++) {
            DUE.is("promise 19: tells " + i + " " + thoughts, d.tells(i, thoughts), sayings[i]);
        }
    }

    private static void thinks() {
        GreenDoor d = new GreenDoor();
        d.thing(0, 0, 1, 0);
        d.thing(0, 0, 1, 1);
        d.thing(1, 0, 1, 2);
        d.paint(0, 3, 1);
        keep(d, "all");
        keep(d, "kind 0");
        keep(d, "mark 0");
        keep(d, "kind 3");
        hears(d, 0, 7, 3, 1, 0);
        tells(d, 0, 2, 1, 0);
        hears(d, 1, 4, 2, 1, 0);
        tells(d, 1, 2, 1, 0);
        hears(d, 20, 4, 2, 1, 0);
        DUE.is("promise 20: ends", d.ends(), 1);
        d.paint(2, 3, 2);
        keep(d, "mark 1");
        hears(d, 1, 7, 2, 1, 0, 4);
        tells(d, 0, 2, 1, 4);
        d.thing(2, 0, 1, 9);
        hears(d, 0, 15, 3, 1, 0, 4);
        hears(d, 1, 8, 2, 1, 0, 4);
        tells(d, 1, 2, 1, 4, 0);
        GreenDoor none = new GreenDoor();
        none.thing(0, 0, 1, 0);
        keep(none, "kind 1");
        tells(none, 0, GreenDoor.NONE);
        hears(none, 3, 0);
    }

    private static void choosesBySizeAndCost() {
        GreenDoor d = new GreenDoor();
        d.thing(0, 0, 1, 0);
        d.thing(0, 1, 1, 1);
        keep(d, "all");
        keep(d, "leftmost all");
        keep(d, "colour 0");
        keep(d, "not colour 1");
        keep(d, "kind 0");
        hears(d, 0, 3, 1, 1, 1, 3);
        tells(d, 0, 2, 0);
        hears(d, 1, 2, 1, 1, 1, 3);
        d.price(2, 2);
        tells(d, 0, 1, 0);
        d.price(12, 9);
        tells(d, 0, 2, 0);
        d.price(2, 9);
        d.price(4, 2);
        tells(d, 0, 2, 0);
        d.price(0, 2);
        tells(d, 0, 2, 4);
        hears(d, 1, 3, 1, 1, 1, 2);
        d.price(1, 3);
        tells(d, 0, 2, 0);
        tells(d, 20, 2, 0);
    }

    private static void wrongOfEight() {
        GreenDoor d = new GreenDoor();
        for (int i = 0; i < 8; i++) {
            d.thing(i / 4, 0, 1, i);
        }
        wrong(d, "or all kind 0", 255, 3, 5);
        wrong(d, "and kind 0 all", 0, 3, 5);
        wrong(d, "leftmost kind 1", 0, 2, 4);
        wrong(d, "or kind 1 kind 1", 240, 5, 8);
        wrong(d, "not kind 0", 255, 2, 3);
    }

    /** The one said is among the fewest and stays so when fewer are meant, so that one thought is enough. */
    private static void ends() {
        GreenDoor d = new GreenDoor();
        d.thing(0, 0, 1, 0);
        d.thing(0, 1, 1, 2);
        d.thing(1, 1, 1, 4);
        d.thing(1, 2, 1, 6);
        keep(d, "only kind 0");
        DUE.is("promise 20: never taken", d.ends(), 0);
        keep(d, "all");
        DUE.is("promise 20: said of all that it means", d.ends(), 0);
        keep(d, "or kind 0 colour 1");
        DUE.is("promise 20: said of others", d.ends(), 1);
        keep(d, "or colour 0 kind 1");
        DUE.is("promise 20: of as many", d.ends(), 1);
        d.paint(3, 0, 0);
        d.paint(3, 1, 1);
        DUE.is("promise 20: the scene is another", d.ends(), 1);
        hears(d, 1, 0, 15 - 5, 15, 5);
        for (int i = 0; i < 4; i++) {
            d.paint(i, 0, 2);
            d.paint(i, 1, 2);
        }
        DUE.is("promise 20: nothing else is meant", d.ends(), 0);
    }

    private static void wrong(GreenDoor d, String text, int likeliest, int many, int sayings) {
        Due.tell(d, text);
        DUE.is("promise 21: wrong 0 of '" + text + "'", d.wrong(0), likeliest);
        DUE.is("promise 21: wrong 1 of '" + text + "'", d.wrong(1), many);
        DUE.is("promise 21: wrong 2 of '" + text + "'", d.wrong(2), sayings);
        DUE.is("promise 21: the text stays", d.count(2), text.length());
    }

    private static void wrong() {
        GreenDoor d = new GreenDoor();
        d.thing(0, 0, 1, 0);
        DUE.is("promise 21: a fault", d.wrong(0), GreenDoor.NOT);
        DUE.is("promise 21: a fault", d.wrong(2), GreenDoor.NOT);
        DUE.is("promise 21: outside before a fault", d.wrong(3), GreenDoor.OUTSIDE);
        DUE.is("promise 21: outside before a fault", d.wrong(-1), GreenDoor.OUTSIDE);
        wrong(d, "all", GreenDoor.NONE, GreenDoor.NONE, 0);
        wrong(d, "not only all", GreenDoor.NONE, GreenDoor.NONE, 0);
        wrong(d, "kind 0", 0, 3, 3);
        wrong(d, "kind 2", 0, 2, 3);
        wrong(d, "colour 1", 0, 2, 3);
        wrong(d, "mark 2", 0, 2, 2);
        wrong(d, "and all all", 0, 1, 2);
        wrong(d, "or all all", 0, 1, 2);
        wrong(d, "but all all", 1, 2, 2);
        wrong(d, "beside all", 0, 1, 1);
        wrong(d, "tied all", 0, 1, 1);
        wrong(d, "most all", 1, 1, 1);
        wrong(d, "least all", 1, 1, 1);
        wrong(d, "leftmost all", 0, 1, 1);
        wrong(d, "second all", 1, 1, 1);
    }

    private static void wrongSets() {
        GreenDoor d = new GreenDoor();
        d.thing(0, 0, 1, 0);
        d.thing(1, 0, 2, 1);
        d.thing(1, 1, 3, 9);
        d.paint(2, 3, 2);
        d.tie(2, 0);
        wrong(d, "kind 0", 0, 2, 3);
        wrong(d, "beside kind 0", 0, 2, 4);
        wrong(d, "tied kind 0", 0, 3, 4);
        wrong(d, "most all", 1, 1, 1);
        wrong(d, "least all", 4, 1, 1);
        wrong(d, "leftmost all", 2, 1, 1);
        wrong(d, "second all", 1, 1, 1);
        wrong(d, "mark 0", 0, 1, 2);
        wrong(d, "mark 1", 0, 2, 2);
        // By or 3, by but 0; by kinds 2, 0, 0; by colours 0, 0, 0.
        wrong(d, "and kind 0 colour 0", 0, 6, 8);
        // By and 1, by but 0; by kinds 7, 3, 3; by colours 5, 1, 1.
        wrong(d, "or kind 0 colour 0", 1, 3, 8);
    }
}

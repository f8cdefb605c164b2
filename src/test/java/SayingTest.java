/** Promises 7 to 12: the text, its faults, what it means and what is kept of it. */
public final class SayingTest {
    private static final Due DUE = new Due("SayingTest");

    public static void main(String[] args) {
        write();
        erase();
        faults();
        longTexts();
        meanings();
        sizesAndPlaces();
        says();
        keep();
        kept();
        DUE.end();
    }

    private static void write() {
        GreenDoor d = new GreenDoor();
        DUE.is("promise 7: one byte", d.write('a', 1), 1);
        DUE.is("promise 7: two bytes more", d.write(Due.bytes("ll"), 2), 3);
        DUE.is("promise 7: read as all", d.fault(), GreenDoor.NONE);
        DUE.is("promise 7: no bytes", d.write(0, 0), GreenDoor.OUTSIDE);
        DUE.is("promise 7: nine bytes", d.write(0, 9), GreenDoor.OUTSIDE);
        DUE.is("promise 7: below 0", d.write(0, -1), GreenDoor.OUTSIDE);
        DUE.is("promise 7: the text stays", d.fault(), GreenDoor.NONE);
        DUE.is("promise 7: only n bytes are written", d.write(Due.bytes("  all"), 2), 5);
        DUE.is("promise 7: the rest is not", d.fault(), GreenDoor.NONE);
        DUE.is("promise 7: bytes above 127", d.write(-1L, 8), 13);
        DUE.is("promise 7: they are a fault", d.fault(), 5);
        d.erase();
        for (int i = 1; i <= 19; i++) {
            DUE.is("promise 7: eight more", d.write(Due.bytes("        "), 8), 8 * i);
        }
        DUE.is("promise 7: 159 bytes", d.write(Due.bytes("    all"), 7), 159);
        DUE.is("promise 7: full", d.write(0, 2), GreenDoor.FULL);
        DUE.is("promise 7: outside before full", d.write(0, 9), GreenDoor.OUTSIDE);
        DUE.is("promise 7: not changed", d.fault(), GreenDoor.NONE);
        DUE.is("promise 7: the last byte", d.write(' ', 1), 160);
        DUE.is("promise 7: full", d.write(' ', 1), GreenDoor.FULL);
        DUE.is("promise 7: a whole text is read", d.fault(), GreenDoor.NONE);
    }

    private static void erase() {
        GreenDoor d = new GreenDoor();
        Due.append(d, "kind 1");
        DUE.is("promise 8: bytes it had", d.erase(), 6);
        DUE.is("promise 8: empty", d.erase(), 0);
        DUE.is("promise 8: count", d.count(2), 0);
        DUE.is("promise 8: an empty text has a fault", d.fault(), 0);
    }

    private static void fault(String text, int want) {
        GreenDoor d = new GreenDoor();
        Due.append(d, text);
        DUE.is("promise 9: fault of '" + text + "'", d.fault(), want);
        DUE.is("promise 9: says of '" + text + "'", d.says(0), want == GreenDoor.NONE ? 0 : GreenDoor.NOT);
    }

    private static void faults() {
        for (String text : new String[] {"all", "  all  ", "kind 0", "kind 3", "colour3", "mark 2", "mark0", "not all",
            "and all all", "or kind 1colour 2", "but   all\u0020mark1", "beside all", "tied all", "most all", "least all",
            "leftmost all", "second all", "only all"}) {
            fault(text, GreenDoor.NONE);
        }
        fault("", 0);
        fault("   ", 3);
        fault("kind", 4);
        fault("kind ", 5);
        fault("not ", 4);
        fault("and all", 7);
        fault("and all kind", 12);
        fault("kind 4", 5);
        fault("colour 4", 7);
        fault("mark 3", 5);
        fault("mark 9", 5);
        fault("kind 00", 5);
        fault("kind 12 x", 5);
        fault("kind all", 5);
        fault("kind kind 1", 5);
        fault("all 0", 4);
        fault("all1", 3);
        fault("0 all", 0);
        fault(" any", 1);
        fault("al", 0);
        fault("alll", 0);
        fault("allall", 0);
        fault("leftmosts all", 0);
        fault("leftmostsecond all", 0);
        fault("All", 0);
        fault("aLl", 0);
        fault("not\tall", 3);
        fault("not\nall", 3);
        fault("all.", 3);
        fault("all,all", 3);
        fault("not -all", 4);
        fault("kind -1", 5);
        fault("kind (1", 5);
        fault("all all", 4);
        fault("and all all all", 12);
        fault("and all any", 8);
        fault("and any any", 4);
        fault("all \u00ff", 4);
        fault("\u00e1ll", 0);
        fault("all \u00a0", 4);
        fault("ill", 0);
        fault("xind 1", 0);
        fault("allz", 0);
        fault("kind 09", 5);
        fault("kind 90", 5);
        fault("not {all", 4);
        fault("not `", 4);
        fault("kind :", 5);
        fault("kind /", 5);
        fault("all \u0000", 4);
    }

    private static void longTexts() {
        String nots = "not not not not not not not not not not not not not not not not not not not not not not not ";
        fault(nots + "all", GreenDoor.NONE);
        fault(nots + "kind 3", GreenDoor.NONE);
        fault(nots + "not", 95);
        fault(nots + "not all", 96);
        fault(nots + "all all", 96);
        fault(nots + "any", 92);
        fault(nots + "kind", 96);
        fault(nots + "and all", 96);
        fault(nots + "and ", 96);
    }

    private static void meaning(GreenDoor d, String text, int want) {
        Due.tell(d, text);
        DUE.is("promise 10: '" + text + "' means", d.says(0), want);
    }

    private static void meanings() {
        GreenDoor d = scene();
        meaning(d, "all", 31);
        meaning(d, "kind 0", 3);
        meaning(d, "kind 1", 28);
        meaning(d, "kind 2", 0);
        meaning(d, "colour 0", 5);
        meaning(d, "colour 3", 16);
        meaning(d, "mark 0", 9);
        meaning(d, "mark 1", 16);
        meaning(d, "mark 2", 8);
        meaning(d, "not all", 0);
        meaning(d, "not kind 0", 28);
        meaning(d, "and kind 0 colour 0", 1);
        meaning(d, "or kind 0 colour 0", 7);
        meaning(d, "but kind 0 colour 0", 2);
        meaning(d, "but colour 0 kind 0", 4);
        meaning(d, "beside colour 3", 6);
        meaning(d, "beside all", 22);
        meaning(d, "beside not all", 0);
        meaning(d, "tied kind 0", 2 + 8);
        meaning(d, "tied mark 1", 1);
        meaning(d, "tied tied mark 1", 2 + 8);
        meaning(d, "only mark 1", 16);
        meaning(d, "only mark 0", 0);
        meaning(d, "only kind 3", 0);
        meaning(d, "not and or kind 0 mark 2 but all colour 0", 31 - (2 + 8));
        meaning(d, "but but all kind 0 but colour 0 kind 0", 8 + 16);
    }

    private static void sizesAndPlaces() {
        GreenDoor d = scene();
        meaning(d, "most all", 6);
        meaning(d, "least all", 1 + 16);
        meaning(d, "most kind 1", 4);
        meaning(d, "least kind 1", 16);
        meaning(d, "most kind 3", 0);
        meaning(d, "least kind 3", 0);
        meaning(d, "leftmost all", 4);
        meaning(d, "second all", 16);
        meaning(d, "leftmost kind 0", 2);
        meaning(d, "second kind 0", 1);
        meaning(d, "second mark 1", 0);
        meaning(d, "second kind 3", 0);
        meaning(d, "leftmost kind 3", 0);
        meaning(d, "second second all", 0);
        meaning(d, "leftmost not or leftmost all second all", 2);
    }

    /** Five things, by places: 2 at 3, 4 at 4, 1 at 5, 0 at 9, 3 at 15. */
    private static GreenDoor scene() {
        GreenDoor d = new GreenDoor();
        d.thing(0, 0, 2, 9);
        d.thing(0, 1, 7, 5);
        d.thing(1, 0, 7, 3);
        d.thing(1, 1, 5, 15);
        d.thing(1, 3, 2, 4);
        d.paint(0, 3, 1);
        d.paint(3, 3, 5);
        d.paint(4, 3, 2);
        d.tie(0, 4);
        d.tie(1, 0);
        d.tie(3, 0);
        return d;
    }

    private static void says() {
        GreenDoor d = scene();
        d.price(5, 4);
        d.price(3, 9);
        Due.tell(d, "and kind 1 not mark 1");
        DUE.is("promise 10: means", d.says(0), 12);
        DUE.is("promise 10: costs", d.says(1), 4 + 1 + 1 + 9);
        DUE.is("promise 10: words", d.says(2), 4);
        DUE.is("promise 10: it stays", d.count(2), 21);
        DUE.is("promise 10: outside", d.says(3), GreenDoor.OUTSIDE);
        DUE.is("promise 10: outside", d.says(-1), GreenDoor.OUTSIDE);
        Due.tell(d, "and kind 1");
        DUE.is("promise 10: a fault", d.says(1), GreenDoor.NOT);
        DUE.is("promise 10: outside before a fault", d.says(3), GreenDoor.OUTSIDE);
        Due.append(d, " all");
        DUE.is("promise 10: mended", d.says(0), 28);
    }

    private static void keep() {
        GreenDoor d = scene();
        DUE.is("promise 11: an empty text", d.keep(), GreenDoor.NOT);
        for (int i = 0; i < 8; i++) {
            Due.tell(d, i % 2 == 0 ? "kind 0" : "not kind 0");
            DUE.is("promise 11: number", d.keep(), i);
            DUE.is("promise 11: empty then", d.count(2), 0);
        }
        DUE.is("promise 11: a fault before full", d.keep(), GreenDoor.NOT);
        Due.tell(d, "all");
        DUE.is("promise 11: full", d.keep(), GreenDoor.FULL);
        DUE.is("promise 11: the text stays", d.says(0), 31);
        DUE.is("promise 11: still eight", d.count(3), 8);
    }

    private static void kept() {
        GreenDoor d = scene();
        Due.tell(d, "not colour 1");
        d.keep();
        Due.tell(d, "all");
        DUE.is("promise 12: means", d.kept(0, 0), 21);
        DUE.is("promise 12: costs", d.kept(0, 1), 2);
        DUE.is("promise 12: words", d.kept(0, 2), 2);
        DUE.is("promise 12: the text is another", d.says(0), 31);
        d.paint(1, 1, 2);
        d.price(4, 6);
        DUE.is("promise 12: means now", d.kept(0, 0), 23);
        DUE.is("promise 12: costs now", d.kept(0, 1), 7);
        d.thing(0, 0, 1, 0);
        DUE.is("promise 12: a thing more", d.kept(0, 0), 23 + 32);
        DUE.is("promise 12: unknown", d.kept(1, 0), GreenDoor.UNKNOWN);
        DUE.is("promise 12: unknown", d.kept(-1, 0), GreenDoor.UNKNOWN);
        DUE.is("promise 12: unknown before outside", d.kept(1, 3), GreenDoor.UNKNOWN);
        DUE.is("promise 12: outside", d.kept(0, 3), GreenDoor.OUTSIDE);
        DUE.is("promise 12: outside", d.kept(0, -1), GreenDoor.OUTSIDE);
    }
}

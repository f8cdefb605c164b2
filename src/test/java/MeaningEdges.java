/** Edges of promise 10: what the words mean of no things, of one, of all, and at the ends of sizes and places. */
final class MeaningEdges {
    private static final String NONE_OF_THEM = "but all all";

    private final Edges e;

    MeaningEdges(Edges edges) {
        e = edges;
    }

    void run() {
        all();
        looks();
        notIn();
        joined();
        beside();
        tied();
        sizes();
        leftmost();
        second();
        only();
        noSuch();
    }

    private void means(GreenDoor d, String text, int want) {
        Due.tell(d, text);
        e.is("'" + text + "' of " + d.count(0) + " things", d.says(0), want);
    }

    private static GreenDoor door(int... places) {
        GreenDoor d = new GreenDoor();
        Edges.alike(d, places);
        return d;
    }

    private static GreenDoor eight() {
        return door(15, 0, 2, 4, 6, 8, 10, 12);
    }

    private void all() {
        e.sentence(10, "It MEANS a set of THINGS: all;");
        means(door(), "all", 0);
        means(door(15), "all", 1);
        means(eight(), "all", 255);
    }

    private void looks() {
        e.sentence(10, "those of that KIND, COLOUR, with that MARK;");
        GreenDoor d = eight();
        means(door(), "kind 0", 0);
        means(d, "kind 0", 255);
        means(d, "kind 3", 0);
        means(d, "colour 3", 0);
        means(d, "mark 0", 0);
        d.paint(7, 0, 3);
        d.paint(7, 1, 3);
        d.paint(7, 3, 4);
        d.paint(0, 3, 7);
        means(d, "kind 3", 128);
        means(d, "kind 0", 127);
        means(d, "colour 3", 128);
        means(d, "colour 0", 127);
        means(d, "mark 2", 129);
        means(d, "mark 1", 1);
        means(d, "mark 0", 1);
    }

    private void notIn() {
        e.sentence(10, "those not in S;");
        means(door(), "not all", 0);
        means(door(), "not not all", 0);
        means(door(5), "not all", 0);
        means(door(5), "not kind 1", 1);
        means(eight(), "not all", 0);
        means(eight(), "not not all", 255);
        means(eight(), "not leftmost all", 255 - 2);
    }

    private void joined() {
        e.sentence(10, "in both; in one of both; in the first one, not in the second;");
        GreenDoor d = eight();
        String[] parts = {NONE_OF_THEM, "leftmost all", "not leftmost all", "all"};
        int[] sets = {0, 2, 253, 255};
        for (int i = 0; i < 4; i++) {
            for (int j = 0; j < 4; j++) {
                means(d, "and " + parts[i] + " " + parts[j], sets[i] & sets[j]);
                means(d, "or " + parts[i] + " " + parts[j], sets[i] | sets[j]);
                means(d, "but " + parts[i] + " " + parts[j], sets[i] & ~sets[j]);
            }
        }
        means(door(), "or all all", 0);
    }

    private void beside() {
        e.sentence(10, "those BESIDE some of S;");
        means(door(), "beside all", 0);
        means(door(7), "beside all", 0);
        means(door(0, 15), "beside all", 0);
        means(door(0, 2), "beside all", 0);
        means(door(0, 1), "beside all", 3);
        means(door(15, 14), "beside all", 3);
        means(door(0, 1, 2), "beside " + NONE_OF_THEM, 0);
        means(door(0, 1, 2), "beside leftmost all", 2);
        means(door(0, 1, 2), "beside second all", 5);
        means(door(0, 1, 2), "beside not second all", 2);
        means(door(8, 9, 10, 11, 12, 13, 14, 15), "beside all", 255);
    }

    private void tied() {
        e.sentence(10, "those from which a TIE goes to some of S;");
        means(door(), "tied all", 0);
        GreenDoor d = eight();
        means(d, "tied all", 0);
        d.tie(0, 1);
        means(d, "tied all", 1);
        means(d, "tied leftmost all", 1);
        means(d, "tied not leftmost all", 0);
        means(d, "tied " + NONE_OF_THEM, 0);
        d.tie(7, 0);
        means(d, "tied all", 129);
        means(d, "tied tied all", 128);
        GreenDoor full = new GreenDoor();
        Edges.fullScene(full);
        means(full, "tied all", 255);
        means(full, "tied leftmost all", 254);
        means(full, "tied " + NONE_OF_THEM, 0);
    }

    private void sizes() {
        e.sentence(10, "those of S of the greatest, of the least SIZE;");
        GreenDoor d = eight();
        means(d, "most all", 255);
        means(d, "least all", 255);
        d.paint(7, 2, 2);
        means(d, "most all", 128);
        means(d, "least all", 127);
        for (int i = 0; i < 8; i++) {
            d.paint(i, 2, 9);
        }
        means(d, "most all", 255);
        means(d, "least all", 255);
        d.paint(0, 2, 8);
        d.paint(1, 2, 1);
        means(d, "most all", 252);
        means(d, "least all", 2);
        means(d, "least not least all", 1);
        means(d, "most least all", 2);
        means(door(3), "most all", 1);
        means(door(3), "least all", 1);
    }

    private void leftmost() {
        e.sentence(10, "that of S at the least PLACE;");
        means(door(0), "leftmost all", 1);
        means(door(15), "leftmost all", 1);
        means(door(15, 14), "leftmost all", 2);
        means(door(0, 15), "leftmost all", 1);
        means(eight(), "leftmost all", 2);
        means(eight(), "leftmost not leftmost all", 4);
    }

    private void second() {
        e.sentence(10, "that at the second least;");
        means(door(0), "second all", 0);
        means(door(15, 0), "second all", 1);
        means(door(0, 15), "second all", 2);
        means(door(15, 13, 14), "second all", 4);
        means(eight(), "second all", 4);
        means(eight(), "second leftmost all", 0);
        means(eight(), "second or leftmost all second all", 4);
    }

    private void only() {
        e.sentence(10, "S, if it is just one THING;");
        means(door(), "only all", 0);
        means(door(4), "only all", 1);
        means(door(4, 6), "only all", 0);
        means(eight(), "only all", 0);
        means(eight(), "only leftmost all", 2);
        means(eight(), "only not leftmost all", 0);
    }

    private void noSuch() {
        e.sentence(10, "none of these, if there is no such.");
        String[] words = {"beside", "tied", "most", "least", "leftmost", "second", "only"};
        for (String word : words) {
            means(door(), word + " all", 0);
            means(eight(), word + " kind 3", 0);
            means(eight(), word + " " + NONE_OF_THEM, 0);
        }
        means(eight(), "kind 3", 0);
        means(eight(), "mark 2", 0);
    }
}

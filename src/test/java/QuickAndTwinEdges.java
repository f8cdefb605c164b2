/** Edges of promises 15 and 16: quick sayings and twins. */
final class QuickAndTwinEdges {
    private static final int NONE = GreenDoor.NONE, UNKNOWN = GreenDoor.UNKNOWN, OUTSIDE = GreenDoor.OUTSIDE;
    private static final int LOW = Integer.MIN_VALUE, HIGH = Integer.MAX_VALUE;

    private final Edges e;

    QuickAndTwinEdges(Edges edges) {
        e = edges;
    }

    void run() {
        eachInOrder();
        fewer();
        joinedByAnd();
        othersLeft();
        quickRefused();
        firstRound();
        nextRounds();
        tillNothingChanges();
        twinAnswers();
        twinRefused();
    }

    /** A thing of kind 0, colour 0 and these marks, and one of the same look but for this change. */
    private static GreenDoor pair(int marks, int what, int v) {
        GreenDoor d = new GreenDoor();
        Edges.alike(d, 0, 1);
        for (int i = 0; i < 2; i++) {
            d.paint(i, 3, marks);
        }
        d.paint(1, what, v);
        d.price(1, 2);
        d.price(2, 3);
        d.price(3, 4);
        d.price(4, 5);
        d.price(5, 9);
        d.price(0, 8);
        return d;
    }

    private void eachInOrder() {
        e.sentence(15, "QUICK for a THING: of kind, colour, mark 0, mark 1, mark 2, not mark 0, not mark 1, not mark 2, in this "
                + "order, each that is so of it");
        e.is("kind", pair(5, 0, 3).quick(0), 2);
        e.is("colour", pair(5, 1, 3).quick(0), 3);
        for (int mark = 0; mark < 3; mark++) {
            e.is("mark " + mark, pair(7, 3, 7 - (1 << mark)).quick(0), 4);
            e.is("mark " + mark + " alone", pair(1 << mark, 3, 0).quick(0), 4);
            e.is("not mark " + mark, pair(0, 3, 1 << mark).quick(0), 4 + 5);
            e.is("not mark " + mark + " alone", pair(7 - (1 << mark), 3, 7).quick(0), 4 + 5);
        }
        GreenDoor d = pair(5, 0, 1);
        d.paint(1, 1, 1);
        e.is("kind ahead of colour", d.quick(0), 2);
        GreenDoor colour = pair(5, 1, 1);
        colour.paint(1, 3, 0);
        e.is("colour ahead of mark", colour.quick(0), 3);
        GreenDoor mark = pair(4, 3, 1);
        e.is("a mark ahead of not another one", mark.quick(0), 4);
        e.is("a mark ahead of not another one", mark.quick(1), 4);
    }

    private void fewer() {
        e.sentence(15, "leaves fewer of those that all ahead leave (all at first) is said, too, till it alone is left");
        GreenDoor d = pair(1, 1, 1);
        e.is("the like kind is not said", d.quick(0), 3);
        d.thing(1, 0, 1, 2);
        d.paint(2, 3, 1);
        e.is("kind leaves fewer, colour it alone", d.quick(0), 2 + 9 + 3);
        e.is("of its kind there is no other", d.quick(2), 2);
        d.paint(2, 3, 0);
        e.is("no mark is said when it alone is left", d.quick(0), 2 + 9 + 3);
        d.thing(1, 1, 1, 3);
        e.is("colour leaves the other one of its kind out", d.quick(3), 2 + 9 + 3);
        d.paint(1, 0, 1);
        d.paint(1, 3, 0);
        e.is("kind alone", d.quick(0), 2);
        e.is("colour leaves none fewer of those that kind leaves", pairOfThree().quick(0), 2 + 9 + 4);
    }

    /** Colour parts 0 from 2, but kind has done so before; a mark parts it from 1. */
    private static GreenDoor pairOfThree() {
        GreenDoor d = pair(1, 3, 0);
        d.thing(1, 1, 1, 2);
        return d;
    }

    private void joinedByAnd() {
        e.sentence(15, "what they cost joined by and (one and less than there are; all alone, if none is needed)");
        GreenDoor one = new GreenDoor();
        Edges.alike(one, 0);
        e.is("one thing", one.quick(0), 1);
        one.price(0, 9);
        one.price(5, 9);
        e.is("one thing, all of 9", one.quick(0), 9);
        e.is("one is said: no and", pair(0, 0, 1).quick(0), 2);
        // Each of the others differs in one of what is said of the first: two words of not, and four of and.
        GreenDoor d = pair(1, 0, 1);
        for (int i = 2; i < 6; i++) {
            d.thing(0, i == 2 ? 1 : 0, 1, i);
        }
        d.paint(2, 3, 1);
        d.paint(4, 3, 3);
        d.paint(5, 3, 5);
        e.is("five are said", d.quick(0), 2 + 3 + 4 + 9 + 9 + 4 * 9);
        d.paint(5, 3, 0);
        e.is("four are said", d.quick(0), 2 + 3 + 4 + 9 + 3 * 9);
    }

    private void othersLeft() {
        e.sentence(15, "none, if others are left.");
        GreenDoor d = new GreenDoor();
        Edges.alike(d, 0, 15);
        e.is("of one look", d.quick(0), NONE);
        e.is("of one look", d.quick(1), NONE);
        d.paint(0, 2, 9);
        d.tie(0, 1);
        e.is("sizes, places and ties are not said", d.quick(0), NONE);
        d.paint(0, 3, 4);
        e.is("the last mark is", d.quick(0), 1);
        e.is("that it is not is, too", d.quick(1), 2);
        GreenDoor full = new GreenDoor();
        Edges.fullScene(full);
        full.paint(7, 3, 6);
        full.paint(7, 1, 2);
        for (int i = 0; i < 8; i++) {
            e.is("one of " + i + " is left", full.quick(i) == NONE ? 1 : 0, i < 6 ? 0 : 1);
        }
    }

    private void quickRefused() {
        e.sentence(15, "QUICK; NONE. UNKNOWN.");
        for (int thing : new int[] {-1, 3, LOW, HIGH}) {
            e.refused("thing " + thing, Edges::some, d -> d.quick(thing), UNKNOWN);
        }
        e.refused("thing 0 of none", Edges::nothing, d -> d.quick(0), UNKNOWN);
        e.refused("thing 8 of eight", Edges::full, d -> d.quick(8), UNKNOWN);
        GreenDoor d = new GreenDoor();
        Edges.alike(d, 0, 1, 2, 3, 4, 5, 6);
        d.thing(0, 0, 1, 7);
        e.is("the eighth of one look", d.quick(7), NONE);
        d.paint(7, 0, 1);
        e.is("the eighth", d.quick(7), 1);
    }

    private void twin(GreenDoor d, int thing, int least, int round, int sorts) {
        e.is("least twin of " + thing, d.twin(thing, 0), least);
        e.is("round of " + thing, d.twin(thing, 1), round);
        e.is("sorts", d.twin(thing, 2), sorts);
    }

    private void firstRound() {
        e.sentence(16, "in round 0 THINGS are alike that are of one KIND and COLOUR and have the same MARKS");
        GreenDoor d = new GreenDoor();
        Edges.alike(d, 0, 2, 4, 6, 8, 10, 12, 14);
        twin(d, 0, 0, 0, 1);
        twin(d, 7, 0, 0, 1);
        d.paint(7, 2, 9);
        twin(d, 7, 0, 0, 1);
        for (int what : new int[] {0, 1, 3}) {
            int was = d.paint(7, what, 1);
            twin(d, 7, 7, 0, 2);
            twin(d, 6, 0, 0, 2);
            d.paint(7, what, was);
        }
        d.paint(7, 3, 3);
        d.paint(6, 3, 1);
        twin(d, 7, 7, 0, 3);
        twin(d, 6, 6, 0, 3);
        d.paint(6, 3, 7);
        twin(d, 7, 7, 0, 3);
    }

    private void nextRounds() {
        e.sentence(16, "in the next one those that were, and of each sort that was alike have as many BESIDE them, and TIES to "
                + "as many, and TIES from as many");
        GreenDoor beside = new GreenDoor();
        Edges.alike(beside, 0, 15, 14);
        twin(beside, 0, 0, 1, 2);
        twin(beside, 1, 1, 1, 2);
        twin(beside, 2, 1, 1, 2);
        GreenDoor tied = new GreenDoor();
        Edges.alike(tied, 0, 5, 10, 15);
        tied.tie(0, 1);
        twin(tied, 0, 0, 1, 3);
        twin(tied, 1, 1, 1, 3);
        twin(tied, 3, 2, 1, 3);
        tied.tie(2, 1);
        twin(tied, 2, 0, 1, 3);
        tied.tie(2, 3);
        twin(tied, 2, 2, 1, 4);
        GreenDoor sorts = new GreenDoor();
        Edges.alike(sorts, 0, 2, 4, 6);
        sorts.paint(2, 0, 1);
        sorts.tie(0, 2);
        sorts.tie(1, 3);
        twin(sorts, 0, 0, 1, 4);
        twin(sorts, 1, 1, 1, 4);
        sorts.paint(3, 0, 1);
        twin(sorts, 1, 0, 0, 2);
        twin(sorts, 3, 2, 0, 2);
        tiedToOneSort(0, 1, 2);
        tiedToOneSort(2, 1, 0);
        tiedToOneSort(1, 0, 2);
    }

    /** Two alike, till one of them is tied to the only one of another sort. */
    private void tiedToOneSort(int alone, int one, int other) {
        for (int way = 0; way < 2; way++) {
            GreenDoor d = new GreenDoor();
            Edges.alike(d, 0, 2, 4);
            d.paint(alone, 1, 3);
            e.is("alike are " + one + " and " + other, d.twin(one, 2), 2);
            e.is("a tie", way == 0 ? d.tie(one, alone) : d.tie(alone, other), 1);
            twin(d, one, one, 1, 3);
            twin(d, other, other, 1, 3);
            e.is("the one that stood alone from the first on", d.twin(alone, 1), 0);
        }
    }

    /** Eight things of one look such that each round parts but one sort into two: seven rounds, the most there can be. */
    private static GreenDoor sevenRounds() {
        GreenDoor d = new GreenDoor();
        Edges.alike(d, 14, 0, 11, 1, 9, 10, 2, 13);
        int[][] ties = {{1, 2, 4, 5}, {3, 4, 6, 7}, {0, 5, 6, 7}, {2, 4, 7}, {0, 1, 5, 7}, {0, 1, 6}, {0, 1, 2, 3},
            {2, 3, 4, 6}};
        for (int from = 0; from < 8; from++) {
            for (int to : ties[from]) {
                d.tie(from, to);
            }
        }
        return d;
    }

    private void tillNothingChanges() {
        e.sentence(16, "till nothing changes. TWINS are alike then.");
        GreenDoor path = new GreenDoor();
        Edges.alike(path, 3, 4, 5, 6, 7, 8, 9, 10);
        int[] rounds = {1, 2, 3, 3, 3, 3, 2, 1};
        for (int i = 0; i < 8; i++) {
            twin(path, i, Math.min(i, 7 - i), rounds[i], 4);
        }
        GreenDoor most = sevenRounds();
        int last = 0;
        for (int i = 0; i < 8; i++) {
            e.is("least twin of " + i, most.twin(i, 0), i);
            last = Math.max(last, most.twin(i, 1));
        }
        e.is("the last round that parts any", last, 7);
        e.is("sorts", most.twin(0, 2), 8);
    }

    private void twinAnswers() {
        e.sentence(16, "The least TWIN of a THING (what 0; itself perhaps), the round in which it is alike to none but its TWINS "
                + "(1), how many sorts there are in all (2).");
        GreenDoor one = new GreenDoor();
        Edges.alike(one, 15);
        twin(one, 0, 0, 0, 1);
        one.thing(0, 0, 1, 0);
        twin(one, 0, 0, 0, 1);
        twin(one, 1, 0, 0, 1);
        one.paint(0, 3, 4);
        twin(one, 0, 0, 0, 2);
        twin(one, 1, 1, 0, 2);
        GreenDoor eight = new GreenDoor();
        Edges.fullScene(eight);
        twin(eight, 0, 0, 0, 8);
        twin(eight, 7, 7, 0, 8);
    }

    private void twinRefused() {
        e.sentence(16, "UNKNOWN; OUTSIDE.");
        for (int thing : new int[] {-1, 3, LOW, HIGH}) {
            e.refused("thing " + thing, Edges::some, d -> d.twin(thing, 0), UNKNOWN);
            e.refused("thing " + thing + ", what 3", Edges::some, d -> d.twin(thing, 3), UNKNOWN);
            e.refused("thing " + thing + ", what -1", Edges::some, d -> d.twin(thing, -1), UNKNOWN);
        }
        e.refused("thing 0 of none", Edges::nothing, d -> d.twin(0, 0), UNKNOWN);
        e.refused("thing 8 of eight", Edges::full, d -> d.twin(8, 0), UNKNOWN);
        for (int what : new int[] {-1, 3, LOW, HIGH}) {
            e.refused("what " + what, Edges::some, d -> d.twin(0, what), OUTSIDE);
        }
    }
}

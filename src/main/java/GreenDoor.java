import java.util.Arrays;

/**
 * Things of a scene, sayings that mean sets of them, and what the cheapest such sayings cost.
 * A set of things is an int with one bit for each thing.
 */
public final class GreenDoor {
    public static final int NONE = -1, UNKNOWN = -2, OUTSIDE = -3, NOT = -4, FULL = -5;

    private static final int THINGS = 8;
    private static final int SETS = 256;
    private static final int SHELF = 8;
    private static final int THOUGHTS = 20;

    private final Scene scene = new Scene();
    private final int[] prices = new int[Words.COUNT];
    private final Text text = new Text();
    private final Saying[] shelf = new Saying[SHELF];
    private final Ways ways = new Ways();
    private final BestMark bestMark = new BestMark();
    private final Twins twins = new Twins();
    private final Hearer hearer = new Hearer();
    private final Misheard misheard = new Misheard();
    private final Talk talked = new Talk();
    private int shelved;
    // Counts what could make a filled table wrong, so that a table is kept for as long as it is right.
    private int changes;

    public GreenDoor() {
        Arrays.fill(prices, 1);
        for (int i = 0; i < SHELF; i++) {
            shelf[i] = new Saying();
        }
    }

    // ---- the scene

    public int thing(int kind, int colour, int size, int place) {
        if (!Scene.isLook(Scene.KIND, kind) || !Scene.isLook(Scene.COLOUR, colour)
                || !Scene.isLook(Scene.SIZE, size) || !isWithin(place, Scene.PLACES)) {
            return OUTSIDE;
        }
        if (scene.isTaken(place)) {
            return NOT;
        }
        if (scene.things >= THINGS) {
            return FULL;
        }
        changes++;
        return scene.add(kind, colour, size, place);
    }

    public int paint(int thing, int what, int v) {
        if (!scene.has(thing)) {
            return UNKNOWN;
        }
        if (!Scene.isLook(what, v)) {
            return OUTSIDE;
        }
        int was = scene.looks[what][thing];
        scene.looks[what][thing] = v;
        changes++;
        return was;
    }

    public int tie(int from, int to) {
        if (!scene.has(from) || !scene.has(to) || from == to) {
            return UNKNOWN;
        }
        if (scene.isTied(from, to)) {
            return NOT;
        }
        changes++;
        return scene.addTie(from, to);
    }

    public int of(int thing, int what) {
        if (!scene.has(thing)) {
            return UNKNOWN;
        }
        return isWithin(what, Scene.ASKED) ? scene.looks[what][thing] : OUTSIDE;
    }

    public int price(int word, int v) {
        if (!isWithin(word, Words.COUNT) || v < 1 || v > 9) {
            return OUTSIDE;
        }
        int was = prices[word];
        prices[word] = v;
        changes++;
        return was;
    }

    // ---- sayings

    public int write(long bytes, int n) {
        if (n < 1 || n > 8) {
            return OUTSIDE;
        }
        return text.hasRoomFor(n) ? text.append(bytes, n) : FULL;
    }

    public int erase() {
        return text.clear();
    }

    public int fault() {
        return text.read();
    }

    public int says(int what) {
        if (!isWithin(what, 3)) {
            return OUTSIDE;
        }
        return text.read() == NONE ? told(text.saying, what) : NOT;
    }

    public int keep() {
        if (text.read() != NONE) {
            return NOT;
        }
        if (shelved >= SHELF) {
            return FULL;
        }
        shelf[shelved].copy(text.saying);
        text.clear();
        return shelved++;
    }

    public int kept(int saying, int what) {
        if (!isWithin(saying, shelved)) {
            return UNKNOWN;
        }
        return isWithin(what, 3) ? told(shelf[saying], what) : OUTSIDE;
    }

    private int told(Saying saying, int what) {
        switch (what) {
            case 0:
                return saying.meaning(scene);
            case 1:
                return saying.cost(prices);
            default:
                return saying.length;
        }
    }

    // ---- cheapest sayings

    public int cheapest(int set, int words, int i) {
        if (!isWithin(set, scene.all() + 1) || !Words.areWords(words) || i < -2) {
            return OUTSIDE;
        }
        Ways table = waysWith(words);
        if (!table.isReached(set)) {
            return NONE;
        }
        switch (i) {
            case -1:
                return table.costs[set];
            case -2:
                return table.lengths[set];
            default:
                return i < table.lengths[set] ? table.codeAt(set, i) : NONE;
        }
    }

    public int sets(int words) {
        return Words.areWords(words) ? waysWith(words).reached : OUTSIDE;
    }

    public int quick(int thing) {
        return scene.has(thing) ? Quick.cost(scene, prices, thing) : UNKNOWN;
    }

    public int twin(int thing, int what) {
        if (!scene.has(thing)) {
            return UNKNOWN;
        }
        if (!isWithin(what, 3)) {
            return OUTSIDE;
        }
        twins.find(scene);
        switch (what) {
            case 0:
                return Integer.numberOfTrailingZeros(twins.alike[thing]);
            case 1:
                return twins.since[thing];
            default:
                return twins.sorts(scene.things);
        }
    }

    private Ways waysWith(int words) {
        if (ways.madeAt != changes || ways.words != words) {
            ways.fill(scene, prices, words, false);
            ways.madeAt = changes;
        }
        return ways;
    }

    // ---- changes, thoughts, talks

    public int breaks() {
        return text.read() == NONE ? firstBreak(text.saying) : NOT;
    }

    private int firstBreak(Saying saying) {
        int meant = saying.meaning(scene);
        int[] colours = scene.looks[Scene.COLOUR];
        for (int thing = 0; thing < scene.things && thing < THINGS; thing++) {
            int was = colours[thing];
            for (int colour = 0; colour < 4; colour++) {
                colours[thing] = colour;
                int means = saying.meaning(scene);
                colours[thing] = was;
                if (means != meant) {
                    return 4 * thing + colour;
                }
            }
        }
        return NONE;
    }

    public int hears(int saying, int thoughts) {
        if (!isWithin(saying, shelved)) {
            return UNKNOWN;
        }
        if (!isWithin(thoughts, THOUGHTS + 1)) {
            return OUTSIDE;
        }
        think(thoughts);
        return hearer.taken[saying];
    }

    public int tells(int thing, int thoughts) {
        if (!scene.has(thing)) {
            return UNKNOWN;
        }
        if (!isWithin(thoughts, THOUGHTS + 1)) {
            return OUTSIDE;
        }
        think(thoughts);
        return hearer.saidOf(thing);
    }

    public int ends() {
        think(0);
        for (int thoughts = 0; thoughts <= THOUGHTS; thoughts++) {
            if (!hearer.deepen(scene.things)) {
                return thoughts;
            }
        }
        return NONE;
    }

    private void think(int thoughts) {
        hearer.start();
        for (int i = 0; i < shelved && i < SHELF; i++) {
            hearer.add(shelf[i].meaning(scene), shelf[i].cost(prices));
        }
        for (int i = 0; i < thoughts; i++) {
            hearer.deepen(scene.things);
        }
    }

    public int wrong(int what) {
        if (!isWithin(what, 3)) {
            return OUTSIDE;
        }
        if (text.read() != NONE) {
            return NOT;
        }
        misheard.hear(scene, text.saying);
        if (what == 2) {
            return misheard.sayings;
        }
        if (misheard.sayings == 0) {
            return NONE;
        }
        return what == 0 ? misheard.likeliest : misheard.tally[misheard.likeliest];
    }

    public int name(int thing) {
        if (!scene.has(thing)) {
            return UNKNOWN;
        }
        return talked.length < Talk.ROOM ? talked.add(thing) : FULL;
    }

    public int hush() {
        int were = talked.length;
        talked.length = 0;
        return were;
    }

    public int talk(int words) {
        return Words.areWords(words) ? talked.cost(waysWith(words)) : OUTSIDE;
    }

    public int worth(int words, int what) {
        if (!Words.areWords(words) || !isWithin(what, 3)) {
            return OUTSIDE;
        }
        if (what == 0) {
            return waysWith(words).worthOf(scene.things);
        }
        if (bestMark.madeAt != changes || bestMark.words != words) {
            bestMark.find(scene, prices, words);
            bestMark.madeAt = changes;
        }
        return what == 1 ? bestMark.least : bestMark.mark;
    }

    public int count(int what) {
        switch (what) {
            case 0:
                return scene.things;
            case 1:
                return scene.ties;
            case 2:
                return text.length;
            case 3:
                return shelved;
            case 4:
                return talked.length;
            default:
                return OUTSIDE;
        }
    }

    private static boolean isWithin(int number, int bound) {
        return number >= 0 && number < bound;
    }

    /** The words by their numbers. A code is 8 times a word and the number that belongs to it. */
    private static final class Words {
        static final int ALL = 0, KIND = 1, COLOUR = 2, MARK = 3, NOT_IN = 4, AND = 5, OR = 6, BUT = 7;
        static final int BESIDE = 8, TIED = 9, MOST = 10, LEAST = 11, LEFTMOST = 12, SECOND = 13;
        static final int COUNT = 15;

        private static final int LETTERS = 8;
        // Each name fills eight signs, as the longest does; one constant, since texts are not joined by +.
        private static final String NAMES =
                "all     kind    colour  mark    not     and     or      but     beside  tied    most    least   leftmostsecond  only    ";
        private static final byte[] NUMBERS = {0, 4, 4, 3, 0, 0, 0, 0, 0, 0, 0, 0, 0, 0, 0};
        private static final byte[] PARTS = {0, 0, 0, 0, 1, 2, 2, 2, 1, 1, 1, 1, 1, 1, 1};
        private static final byte[] FIRST_LIKE = {0, 1, 2, 3, 4, 5, 5, 5, 8, 8, 10, 10, 12, 12, 14};
        private static final byte[] LAST_LIKE = {0, 1, 2, 3, 4, 7, 7, 7, 9, 9, 11, 11, 13, 13, 14};

        static boolean areWords(int words) {
            return isWithin(words, 1 << COUNT);
        }

        static boolean isKnown(int words, int word) {
            return (words >> word & 1) == 1;
        }

        /** How many numbers may belong to a word; 0 if none does. */
        static int numbers(int word) {
            return isWithin(word, COUNT) ? NUMBERS[word] : 0;
        }

        /** How many sayings stand behind a word and belong to it. */
        static int parts(int word) {
            return isWithin(word, COUNT) ? PARTS[word] : 0;
        }

        /** The first of the words that a word may be heard as; the others follow it. */
        static int firstLike(int word) {
            return isWithin(word, COUNT) ? FIRST_LIKE[word] : word;
        }

        static int lastLike(int word) {
            return isWithin(word, COUNT) ? LAST_LIKE[word] : word;
        }

        /** The word that these signs spell, or NONE. */
        static int spelt(char[] signs, int from, int to) {
            if (from < 0 || to > signs.length || to - from > LETTERS) {
                return NONE;
            }
            for (int word = 0; word < COUNT; word++) {
                if (isSpelt(word, signs, from, to)) {
                    return word;
                }
            }
            return NONE;
        }

        private static boolean isSpelt(int word, char[] signs, int from, int to) {
            for (int i = 0; i < LETTERS; i++) {
                char sign = from + i < to ? signs[from + i] : ' ';
                if (NAMES.charAt(LETTERS * word + i) != sign) {
                    return false;
                }
            }
            return true;
        }

        /** What the words of two parts make of two sets. */
        static int join(int word, int first, int second) {
            switch (word) {
                case AND:
                    return first & second;
                case OR:
                    return first | second;
                default:
                    return first & ~second;
            }
        }
    }

    /** The things, by rows: row KIND has the kind of each thing, and so on. */
    private static final class Scene {
        static final int KIND = 0, COLOUR = 1, SIZE = 2, MARKS = 3, PLACE = 4, BESIDE = 5, TIES_TO = 6;
        static final int ASKED = 7;
        static final int TIES_FROM = 7;
        static final int PLACES = 16;

        private static final byte[] LEAST_LOOK = {0, 0, 1, 0};
        private static final byte[] GREATEST_LOOK = {3, 3, 9, 7};

        final int[][] looks = new int[8][THINGS];
        int things;
        int ties;

        /** Whether v may be the kind, colour, size or marks of a thing. */
        static boolean isLook(int what, int v) {
            return isWithin(what, LEAST_LOOK.length) && v >= LEAST_LOOK[what] && v <= GREATEST_LOOK[what];
        }

        boolean has(int thing) {
            return isWithin(thing, things);
        }

        int all() {
            return (1 << things) - 1;
        }

        boolean isTaken(int place) {
            return thoseWith(PLACE, place) != 0;
        }

        int add(int kind, int colour, int size, int place) {
            if (things >= THINGS) {
                return FULL;
            }
            looks[KIND][things] = kind;
            looks[COLOUR][things] = colour;
            looks[SIZE][things] = size;
            looks[PLACE][things] = place;
            int beside = thoseWith(PLACE, place - 1) | thoseWith(PLACE, place + 1);
            looks[BESIDE][things] = beside;
            for (int i = 0; i < things; i++) {
                looks[BESIDE][i] |= (beside >> i & 1) << things;
            }
            return things++;
        }

        boolean isTied(int from, int to) {
            return has(from) && has(to) && (looks[TIES_TO][from] >> to & 1) == 1;
        }

        int addTie(int from, int to) {
            if (has(from) && has(to)) {
                looks[TIES_TO][from] |= 1 << to;
                looks[TIES_FROM][to] |= 1 << from;
                ties++;
            }
            return ties;
        }

        /** The things that a word without parts means. */
        int named(int code) {
            int number = code & 7;
            switch (code >> 3) {
                case Words.ALL:
                    return all();
                case Words.KIND:
                    return thoseWith(KIND, number);
                case Words.COLOUR:
                    return thoseWith(COLOUR, number);
                default:
                    return thoseMarked(number);
            }
        }

        /** What a word of one part makes of a set. */
        int turned(int word, int set) {
            switch (word) {
                case Words.NOT_IN:
                    return all() & ~set;
                case Words.BESIDE:
                    return thoseLinked(BESIDE, set);
                case Words.TIED:
                    return thoseLinked(TIES_TO, set);
                case Words.MOST:
                    return ofSize(set, greatestSize(set));
                case Words.LEAST:
                    return ofSize(set, leastSize(set));
                case Words.LEFTMOST:
                    return leftmost(set);
                case Words.SECOND:
                    return leftmost(set & ~leftmost(set));
                default:
                    return Integer.bitCount(set) == 1 ? set : 0;
            }
        }

        private int thoseWith(int what, int v) {
            int set = 0;
            for (int i = 0; i < things && i < THINGS; i++) {
                if (looks[what][i] == v) {
                    set |= 1 << i;
                }
            }
            return set;
        }

        private int thoseMarked(int mark) {
            int set = 0;
            for (int i = 0; i < things && i < THINGS; i++) {
                set |= (looks[MARKS][i] >> mark & 1) << i;
            }
            return set;
        }

        private int thoseLinked(int what, int set) {
            int linked = 0;
            for (int i = 0; i < things && i < THINGS; i++) {
                if ((looks[what][i] & set) != 0) {
                    linked |= 1 << i;
                }
            }
            return linked;
        }

        private int ofSize(int set, int size) {
            return set & thoseWith(SIZE, size);
        }

        private int greatestSize(int set) {
            int greatest = 0;
            for (int i = 0; i < things && i < THINGS; i++) {
                if ((set >> i & 1) == 1) {
                    greatest = Math.max(greatest, looks[SIZE][i]);
                }
            }
            return greatest;
        }

        private int leastSize(int set) {
            int least = GREATEST_LOOK[SIZE];
            for (int i = 0; i < things && i < THINGS; i++) {
                if ((set >> i & 1) == 1) {
                    least = Math.min(least, looks[SIZE][i]);
                }
            }
            return least;
        }

        private int leftmost(int set) {
            int found = 0;
            int least = PLACES;
            for (int i = 0; i < things && i < THINGS; i++) {
                if ((set >> i & 1) == 1 && looks[PLACE][i] < least) {
                    least = looks[PLACE][i];
                    found = 1 << i;
                }
            }
            return found;
        }
    }

    /** A row of words, each as a code. */
    private static final class Saying {
        static final int ROOM = 24;

        final int[] codes = new int[ROOM];
        private final int[] meant = new int[ROOM];
        int length;

        boolean add(int code) {
            if (length >= ROOM) {
                return false;
            }
            codes[length++] = code;
            return true;
        }

        /** Gives the last word its number. */
        void addNumber(int number) {
            if (length > 0 && length <= ROOM) {
                codes[length - 1] |= number;
            }
        }

        void copy(Saying other) {
            length = 0;
            for (int i = 0; i < other.length && i < ROOM; i++) {
                add(other.codes[i]);
            }
        }

        /** Reads from the last word on, so that the parts of a word are known when it comes. */
        int meaning(Scene scene) {
            int open = 0;
            for (int i = Math.min(length, ROOM) - 1; i >= 0; i--) {
                int word = codes[i] >> 3;
                int parts = Words.parts(word);
                if (parts == 0 && open < ROOM) {
                    meant[open++] = scene.named(codes[i]);
                } else if (parts == 1 && open >= 1) {
                    meant[open - 1] = scene.turned(word, meant[open - 1]);
                } else if (parts == 2 && open >= 2) {
                    open--;
                    meant[open - 1] = Words.join(word, meant[open], meant[open - 1]);
                }
            }
            return meant[0];
        }

        int cost(int[] prices) {
            int cost = 0;
            for (int i = 0; i < length && i < ROOM; i++) {
                int word = codes[i] >> 3;
                cost += isWithin(word, prices.length) ? prices[word] : 0;
            }
            return cost;
        }
    }

    /** The text, and the saying that it is read as. */
    private static final class Text {
        private static final int ROOM = 160;
        private static final int LETTER = 0, DIGIT = 1, OTHER = 2;

        private final char[] signs = new char[ROOM];
        final Saying saying = new Saying();
        int length;
        private int sayingsDue;
        private int numbersDue;

        boolean hasRoomFor(int n) {
            return length + n <= ROOM;
        }

        int append(long bytes, int n) {
            for (int i = 0; i < n && length < ROOM; i++) {
                signs[length++] = (char) (bytes >> 8 * i & 255);
            }
            return length;
        }

        int clear() {
            int were = length;
            length = 0;
            return were;
        }

        /** Reads the text as a saying: the place of its fault, or NONE. */
        int read() {
            saying.length = 0;
            sayingsDue = 1;
            numbersDue = 0;
            int end = 0;
            for (int at = 0; at < length && at < ROOM; at++) {
                if (at < end || signs[at] == ' ') {
                    continue;
                }
                end = endOfToken(at);
                if (!(numbersDue > 0 ? readNumber(at, end) : readWord(at, end))) {
                    return at;
                }
            }
            return sayingsDue > 0 || numbersDue > 0 ? length : NONE;
        }

        private int endOfToken(int from) {
            int sort = sortAt(from);
            int end = from + 1;
            if (sort != OTHER) {
                while (end < length && end < ROOM && sortAt(end) == sort) {
                    end++;
                }
            }
            return end;
        }

        private int sortAt(int at) {
            char sign = isWithin(at, ROOM) ? signs[at] : ' ';
            if (sign >= 'a' && sign <= 'z') {
                return LETTER;
            }
            return sign >= '0' && sign <= '9' ? DIGIT : OTHER;
        }

        private boolean readNumber(int from, int to) {
            if (to - from != 1 || !isWithin(from, ROOM) || !isWithin(signs[from] - '0', numbersDue)) {
                return false;
            }
            saying.addNumber(signs[from] - '0');
            numbersDue = 0;
            return true;
        }

        private boolean readWord(int from, int to) {
            int word = sayingsDue > 0 ? Words.spelt(signs, from, to) : NONE;
            if (word == NONE || !saying.add(8 * word)) {
                return false;
            }
            sayingsDue += Words.parts(word) - 1;
            numbersDue = Words.numbers(word);
            return true;
        }
    }

    /**
     * The cheapest saying of each set, found in the order of their costs. Since no saying is the beginning
     * of another one, the first of like cost is made of parts that are the first of like cost themselves;
     * so a way to a set needs but its word and the sets of its parts. What is read from a row and used as
     * an index is masked by 255, the last set.
     */
    private static final class Ways {
        private static final int LIMIT = 1000;
        private static final int UNCOUNTED = 50;

        final int[] costs = new int[SETS];
        final int[] lengths = new int[SETS];
        // A way is a code, the first part's set and the second part's set: code << 16 | first << 8 | second.
        private final int[] ways = new int[SETS];
        // The place of a reached set in byWords; NONE if it is not reached yet.
        private final int[] ranks = new int[SETS];
        private final int[] byWords = new int[SETS];
        private final int[] byCost = new int[SETS];
        int reached;
        int words;
        int madeAt = NONE;
        private boolean thingsAlone;
        // No way dearer than this can change what is wanted.
        private int dearest;
        private int leastJoin;

        boolean isReached(int set) {
            return isWithin(set, SETS) && ranks[set] != NONE;
        }

        /** The codes of a reached set's saying, i being less than its length. */
        int codeAt(int set, int i) {
            int at = set & 255;
            int ahead = i;
            for (int step = 0; step < LIMIT && ahead > 0; step++) {
                int first = ways[at] >> 8 & 255;
                ahead--;
                if (ahead < lengths[first]) {
                    at = first;
                } else {
                    ahead -= lengths[first];
                    at = ways[at] & 255;
                }
            }
            return ways[at] >> 16;
        }

        int worthOf(int things) {
            int worth = 0;
            for (int i = 0; i < things && i < THINGS; i++) {
                worth += isReached(1 << i) ? costs[1 << i] : UNCOUNTED;
            }
            return worth;
        }

        /** Finds the ways to all sets, or only those that the sets of one thing need. */
        void fill(Scene scene, int[] prices, int words, boolean thingsAlone) {
            this.words = words;
            this.thingsAlone = thingsAlone;
            start(scene, prices);
            int all = scene.all();
            for (int round = 0; round <= all; round++) {
                int set = nearest(all);
                if (set == NONE) {
                    return;
                }
                reach(set);
                turn(scene, prices, set);
                joinAll(prices, set);
            }
        }

        private void start(Scene scene, int[] prices) {
            reached = 0;
            Arrays.fill(costs, LIMIT);
            Arrays.fill(ranks, NONE);
            leastJoin = LIMIT;
            for (int word = 0; word < Words.COUNT && word < prices.length; word++) {
                if (!Words.isKnown(words, word)) {
                    continue;
                }
                if (Words.parts(word) == 0) {
                    offerNamed(scene, prices[word], word);
                } else if (Words.parts(word) == 2) {
                    leastJoin = Math.min(leastJoin, prices[word]);
                }
            }
        }

        private void offerNamed(Scene scene, int price, int word) {
            int numbers = Math.max(1, Words.numbers(word));
            for (int number = 0; number < numbers; number++) {
                int code = 8 * word + number;
                offer(scene.named(code), price, code << 16);
            }
        }

        /** The cheapest set not yet reached; NONE if there is none or nothing more is wanted. */
        private int nearest(int all) {
            int nearest = NONE;
            int least = LIMIT;
            dearest = NONE;
            for (int set = 0; set <= all && set < SETS; set++) {
                if (ranks[set] != NONE) {
                    continue;
                }
                if (costs[set] < least) {
                    least = costs[set];
                    nearest = set;
                }
                if (costs[set] > dearest && (!thingsAlone || Integer.bitCount(set) == 1)) {
                    dearest = costs[set];
                }
            }
            return dearest == NONE ? NONE : nearest;
        }

        private void reach(int set) {
            if (reached >= SETS || !isWithin(set, SETS)) {
                return;
            }
            int way = ways[set];
            int parts = Words.parts(way >> 19);
            lengths[set] = 1 + (parts > 0 ? lengths[way >> 8 & 255] : 0) + (parts > 1 ? lengths[way & 255] : 0);
            int rank = reached;
            for (; rank > 0 && isAhead(way, ways[byWords[rank - 1] & 255]); rank--) {
                byWords[rank] = byWords[rank - 1];
                ranks[byWords[rank] & 255] = rank;
            }
            byWords[rank] = set;
            ranks[set] = rank;
            byCost[reached++] = set;
        }

        private void turn(Scene scene, int[] prices, int set) {
            for (int word = Words.NOT_IN; word < Words.COUNT && word < prices.length; word++) {
                if (Words.parts(word) == 1 && Words.isKnown(words, word)) {
                    int cost = costs[set] + prices[word];
                    if (cost <= dearest) {
                        offer(scene.turned(word, set), cost, word << 19 | set << 8);
                    }
                }
            }
        }

        private void joinAll(int[] prices, int set) {
            for (int i = 0; i < reached && i < SETS; i++) {
                int other = byCost[i] & 255;
                if (costs[set] + costs[other] + leastJoin > dearest) {
                    return;
                }
                boolean isFirst = ranks[set] < ranks[other];
                joinTwo(prices, isFirst ? set : other, isFirst ? other : set);
            }
        }

        /** Joins two sets, the first of which is the first by words. */
        private void joinTwo(int[] prices, int first, int second) {
            int cost = costs[first] + costs[second];
            int way = first << 8 | second;
            if (Words.isKnown(words, Words.AND)) {
                offer(first & second, cost + prices[Words.AND], Words.AND << 19 | way);
            }
            if (Words.isKnown(words, Words.OR)) {
                offer(first | second, cost + prices[Words.OR], Words.OR << 19 | way);
            }
            if (Words.isKnown(words, Words.BUT)) {
                offer(first & ~second, cost + prices[Words.BUT], Words.BUT << 19 | way);
                offer(second & ~first, cost + prices[Words.BUT], Words.BUT << 19 | second << 8 | first);
            }
        }

        private void offer(int set, int cost, int way) {
            int at = set & 255;
            if (ranks[at] != NONE || cost > costs[at] || cost >= LIMIT) {
                return;
            }
            if (cost < costs[at] || isAhead(way, ways[at])) {
                costs[at] = cost;
                ways[at] = way;
            }
        }

        /** Whether one way's saying is the first by words; all parts are reached. */
        private boolean isAhead(int way, int other) {
            if (way >> 16 != other >> 16) {
                return way >> 16 < other >> 16;
            }
            int first = ranks[way >> 8 & 255];
            int otherFirst = ranks[other >> 8 & 255];
            return first != otherFirst ? first < otherFirst : ranks[way & 255] < ranks[other & 255];
        }
    }

    /** The mark that, put on a thing, makes the worth least. */
    private static final class BestMark {
        private final Ways trial = new Ways();
        int words;
        int madeAt = NONE;
        int least;
        int mark;

        void find(Scene scene, int[] prices, int words) {
            this.words = words;
            least = NONE;
            mark = NONE;
            for (int i = 0; i < scene.things && i < THINGS; i++) {
                for (int m = 0; m < 3; m++) {
                    // Without the word mark each mark is worth the same, so the first one is best.
                    if (mark == NONE || Words.isKnown(words, Words.MARK)) {
                        tryMark(scene, prices, i, m);
                    }
                }
            }
        }

        private void tryMark(Scene scene, int[] prices, int thing, int m) {
            int[] marks = scene.looks[Scene.MARKS];
            if (!scene.has(thing) || (marks[thing] >> m & 1) == 1) {
                return;
            }
            marks[thing] |= 1 << m;
            trial.fill(scene, prices, words, true);
            marks[thing] &= ~(1 << m);
            int worth = trial.worthOf(scene.things);
            if (mark == NONE || worth < least) {
                least = worth;
                mark = 4 * thing + m;
            }
        }
    }

    /** A saying by properties one after the other. */
    private static final class Quick {
        static int cost(Scene scene, int[] prices, int thing) {
            int left = scene.all();
            int alone = 1 << thing;
            int cost = 0;
            int said = 0;
            for (int i = 0; i < 8 && left != alone; i++) {
                int code = property(scene, i, thing);
                int narrowed = left & (i < 5 ? scene.named(code) : ~scene.named(code));
                if (narrowed != left && (narrowed & alone) != 0) {
                    left = narrowed;
                    said++;
                    cost += prices[code >> 3] + (i < 5 ? 0 : prices[Words.NOT_IN]);
                }
            }
            if (left != alone) {
                return NONE;
            }
            return said == 0 ? prices[Words.ALL] : cost + (said - 1) * prices[Words.AND];
        }

        /** The word that the i-th property is said by: kind, colour, the marks, and the marks for not. */
        private static int property(Scene scene, int i, int thing) {
            if (i == 0) {
                return 8 * Words.KIND + scene.looks[Scene.KIND][thing];
            }
            if (i == 1) {
                return 8 * Words.COLOUR + scene.looks[Scene.COLOUR][thing];
            }
            return 8 * Words.MARK + (i < 5 ? i - 2 : i - 5);
        }
    }

    /** Things that are alike, in rounds. */
    private static final class Twins {
        // Those that a thing is alike to, itself too.
        final int[] alike = new int[THINGS];
        final int[] since = new int[THINGS];
        private final int[] before = new int[THINGS];

        void find(Scene scene) {
            for (int i = 0; i < scene.things && i < THINGS; i++) {
                alike[i] = looksLike(scene, i);
                since[i] = 0;
            }
            // Each round but the last one makes a sort more at least.
            for (int round = 1; round <= THINGS; round++) {
                if (!part(scene, round)) {
                    return;
                }
            }
        }

        int sorts(int things) {
            int sorts = 0;
            for (int i = 0; i < things && i < THINGS; i++) {
                if (Integer.numberOfTrailingZeros(alike[i]) == i) {
                    sorts++;
                }
            }
            return sorts;
        }

        private static int looksLike(Scene scene, int thing) {
            int set = 0;
            for (int i = 0; i < scene.things && i < THINGS; i++) {
                if (scene.looks[Scene.KIND][i] == scene.looks[Scene.KIND][thing]
                        && scene.looks[Scene.COLOUR][i] == scene.looks[Scene.COLOUR][thing]
                        && scene.looks[Scene.MARKS][i] == scene.looks[Scene.MARKS][thing]) {
                    set |= 1 << i;
                }
            }
            return set;
        }

        private boolean part(Scene scene, int round) {
            System.arraycopy(alike, 0, before, 0, THINGS);
            boolean parted = false;
            for (int i = 0; i < scene.things && i < THINGS; i++) {
                for (int j = 0; j < scene.things && j < THINGS; j++) {
                    if ((before[i] >> j & 1) == 1 && !hasAsMany(scene, i, j)) {
                        alike[i] &= ~(1 << j);
                        since[i] = round;
                        parted = true;
                    }
                }
            }
            return parted;
        }

        private boolean hasAsMany(Scene scene, int one, int other) {
            for (int what = Scene.BESIDE; what <= Scene.TIES_FROM; what++) {
                int[] links = scene.looks[what];
                for (int i = 0; i < scene.things && i < THINGS; i++) {
                    if (Integer.bitCount(links[one] & before[i]) != Integer.bitCount(links[other] & before[i])) {
                        return false;
                    }
                }
            }
            return true;
        }
    }

    /** What kept sayings are taken for, so many thoughts deep. */
    private static final class Hearer {
        final int[] taken = new int[SHELF];
        private final int[] deeper = new int[SHELF];
        private final int[] costs = new int[SHELF];
        private int sayings;

        void start() {
            sayings = 0;
        }

        void add(int meaning, int cost) {
            if (sayings < SHELF) {
                taken[sayings] = meaning;
                costs[sayings] = cost;
                sayings++;
            }
        }

        /** The saying that a speaker says of a thing to this hearer, or NONE. */
        int saidOf(int thing) {
            int said = NONE;
            for (int i = 0; i < sayings && i < SHELF; i++) {
                if ((taken[i] >> thing & 1) == 1 && (said == NONE || isBetter(i, said))) {
                    said = i;
                }
            }
            return said;
        }

        private boolean isBetter(int one, int other) {
            int fewer = Integer.bitCount(taken[one]) - Integer.bitCount(taken[other]);
            return fewer < 0 || fewer == 0 && costs[one] < costs[other];
        }

        /** Thinks one thought more: whether a saying is taken otherwise then. */
        boolean deepen(int things) {
            Arrays.fill(deeper, 0);
            for (int i = 0; i < things && i < THINGS; i++) {
                int said = saidOf(i);
                if (isWithin(said, SHELF)) {
                    deeper[said] |= 1 << i;
                }
            }
            boolean changed = false;
            for (int i = 0; i < sayings && i < SHELF; i++) {
                if (deeper[i] != 0 && deeper[i] != taken[i]) {
                    taken[i] = deeper[i];
                    changed = true;
                }
            }
            return changed;
        }
    }

    /** The sayings that a saying with one word heard wrong may have been. */
    private static final class Misheard {
        final int[] tally = new int[SETS];
        int sayings;
        int likeliest;

        void hear(Scene scene, Saying saying) {
            Arrays.fill(tally, 0);
            sayings = 0;
            for (int i = 0; i < saying.length && i < Saying.ROOM; i++) {
                int heard = saying.codes[i];
                int word = heard >> 3;
                for (int like = Words.firstLike(word); like <= Words.lastLike(word); like++) {
                    hearAs(scene, saying, i, like);
                }
                saying.codes[i] = heard;
            }
            likeliest = 0;
            for (int set = 1; set < SETS; set++) {
                if (tally[set] > tally[likeliest & 255]) {
                    likeliest = set;
                }
            }
        }

        /** Counts the sayings in which the i-th word is another one: this word, with each of its numbers. */
        private void hearAs(Scene scene, Saying saying, int i, int word) {
            if (!isWithin(i, Saying.ROOM)) {
                return;
            }
            int heard = saying.codes[i];
            int numbers = Math.max(1, Words.numbers(word));
            for (int number = 0; number < numbers; number++) {
                if (8 * word + number != heard) {
                    saying.codes[i] = 8 * word + number;
                    tally[saying.meaning(scene) & 255]++;
                    sayings++;
                }
            }
            saying.codes[i] = heard;
        }
    }

    /** The things that a talk names, one after the other. */
    private static final class Talk {
        static final int ROOM = 12;
        private static final int IT = 1, OTHER = 2;

        private final int[] named = new int[ROOM];
        int length;

        int add(int thing) {
            if (length < ROOM) {
                named[length++] = thing;
            }
            return length;
        }

        int cost(Ways ways) {
            int cost = 0;
            for (int i = 0; i < length && i < ROOM; i++) {
                int set = 1 << named[i];
                int pointed = pointingAt(i);
                int least = ways.isReached(set) ? ways.costs[set] : pointed;
                if (least == NONE) {
                    return NONE;
                }
                cost += pointed == NONE ? least : Math.min(least, pointed);
            }
            return cost;
        }

        /** What it costs to name the i-th by it or by other; NONE if neither means it. */
        private int pointingAt(int i) {
            if (i < 1 || i >= ROOM) {
                return NONE;
            }
            int last = named[i - 1];
            if (named[i] == last) {
                return IT;
            }
            for (int j = i - 2; j >= 0; j--) {
                if (named[j] != last) {
                    return named[j] == named[i] ? OTHER : NONE;
                }
            }
            return NONE;
        }
    }
}

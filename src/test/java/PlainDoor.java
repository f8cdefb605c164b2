import java.util.ArrayList;
import java.util.Arrays;
import java.util.HashMap;
import java.util.List;
import java.util.Map;
import java.util.function.IntPredicate;
import java.util.regex.Matcher;
import java.util.regex.Pattern;

/** The document in its plainest form and with other means than GreenDoor's, to compare answers with. */
final class PlainDoor {
    static final int NONE = -1, UNKNOWN = -2, OUTSIDE = -3, NOT = -4, FULL = -5;
    static final List<String> NAMES = List.of("all", "kind", "colour", "mark", "not", "and", "or", "but",
            "beside", "tied", "most", "least", "leftmost", "second", "only");
    private static final Pattern TOKEN = Pattern.compile("[a-z]+|[0-9]+|[^ ]", Pattern.DOTALL);

    private static final class Thing {
        int kind, colour, size, marks, place;
        final boolean[] ties = new boolean[8];
    }

    private record Saying(int word, int number, List<Saying> parts) {
        List<Integer> codes() {
            List<Integer> codes = new ArrayList<>();
            codes.add(8 * word + number);
            for (Saying part : parts) {
                codes.addAll(part.codes());
            }
            return codes;
        }
    }

    private static final class Fault extends Exception {
        private static final long serialVersionUID = 1;
        final int place;

        Fault(int place) {
            this.place = place;
        }
    }

    private final List<Thing> things = new ArrayList<>();
    private final int[] prices = new int[15];
    private final StringBuilder text = new StringBuilder();
    private final List<Saying> kept = new ArrayList<>();
    private final List<Integer> named = new ArrayList<>();
    private Map<Integer, List<Integer>> found;
    private String foundFor = "";

    PlainDoor() {
        Arrays.fill(prices, 1);
    }

    int thing(int kind, int colour, int size, int place) {
        if (kind < 0 || kind > 3 || colour < 0 || colour > 3 || size < 1 || size > 9 || place < 0 || place > 15) {
            return OUTSIDE;
        }
        for (Thing t : things) {
            if (t.place == place) {
                return NOT;
            }
        }
        if (things.size() == 8) {
            return FULL;
        }
        Thing t = new Thing();
        t.kind = kind;
        t.colour = colour;
        t.size = size;
        t.place = place;
        things.add(t);
        return things.size() - 1;
    }

    int paint(int thing, int what, int v) {
        if (!isThing(thing)) {
            return UNKNOWN;
        }
        Thing t = things.get(thing);
        int was;
        switch (what) {
            case 0:
                if (v < 0 || v > 3) {
                    return OUTSIDE;
                }
                was = t.kind;
                t.kind = v;
                return was;
            case 1:
                if (v < 0 || v > 3) {
                    return OUTSIDE;
                }
                was = t.colour;
                t.colour = v;
                return was;
            case 2:
                if (v < 1 || v > 9) {
                    return OUTSIDE;
                }
                was = t.size;
                t.size = v;
                return was;
            case 3:
                if (v < 0 || v > 7) {
                    return OUTSIDE;
                }
                was = t.marks;
                t.marks = v;
                return was;
            default:
                return OUTSIDE;
        }
    }

    int tie(int from, int to) {
        if (!isThing(from) || !isThing(to) || from == to) {
            return UNKNOWN;
        }
        if (things.get(from).ties[to]) {
            return NOT;
        }
        things.get(from).ties[to] = true;
        return count(1);
    }

    int of(int thing, int what) {
        if (!isThing(thing)) {
            return UNKNOWN;
        }
        Thing t = things.get(thing);
        switch (what) {
            case 0:
                return t.kind;
            case 1:
                return t.colour;
            case 2:
                return t.size;
            case 3:
                return t.marks;
            case 4:
                return t.place;
            case 5:
                return those(i -> areBeside(thing, i));
            case 6:
                return those(i -> t.ties[i]);
            default:
                return OUTSIDE;
        }
    }

    int price(int word, int v) {
        if (word < 0 || word > 14 || v < 1 || v > 9) {
            return OUTSIDE;
        }
        int was = prices[word];
        prices[word] = v;
        return was;
    }

    int write(long bytes, int n) {
        if (n < 1 || n > 8) {
            return OUTSIDE;
        }
        if (text.length() + n > 160) {
            return FULL;
        }
        for (int i = 0; i < n; i++) {
            text.append((char) (bytes >> 8 * i & 255));
        }
        return text.length();
    }

    int erase() {
        int were = text.length();
        text.setLength(0);
        return were;
    }

    int fault() {
        try {
            read();
            return NONE;
        } catch (Fault f) {
            return f.place;
        }
    }

    int says(int what) {
        if (what < 0 || what > 2) {
            return OUTSIDE;
        }
        try {
            return told(read(), what);
        } catch (Fault f) {
            return NOT;
        }
    }

    int keep() {
        try {
            Saying saying = read();
            if (kept.size() == 8) {
                return FULL;
            }
            kept.add(saying);
            text.setLength(0);
            return kept.size() - 1;
        } catch (Fault f) {
            return NOT;
        }
    }

    int kept(int saying, int what) {
        if (saying < 0 || saying >= kept.size()) {
            return UNKNOWN;
        }
        return what < 0 || what > 2 ? OUTSIDE : told(kept.get(saying), what);
    }

    int cheapest(int set, int words, int i) {
        if (set < 0 || set >= 1 << things.size() || areNoWords(words) || i < -2) {
            return OUTSIDE;
        }
        List<Integer> codes = codes(set, words);
        if (codes.isEmpty()) {
            return NONE;
        }
        if (i == -1) {
            return codes.stream().mapToInt(code -> prices[code / 8]).sum();
        }
        if (i == -2) {
            return codes.size();
        }
        return i < codes.size() ? codes.get(i) : NONE;
    }

    /** The cheapest saying for a set; empty if there is none. */
    List<Integer> codes(int set, int words) {
        String key = words + " " + Arrays.toString(prices);
        for (Thing t : things) {
            key += ";" + t.kind + "," + t.colour + "," + t.size + "," + t.marks + Arrays.toString(t.ties);
        }
        if (!key.equals(foundFor)) {
            found = sayings(words);
            foundFor = key;
        }
        return found.getOrDefault(set, List.of());
    }

    int sets(int words) {
        if (areNoWords(words)) {
            return OUTSIDE;
        }
        int sets = 0;
        for (int cost : costs(words)) {
            sets += cost < 1000 ? 1 : 0;
        }
        return sets;
    }

    int quick(int thing) {
        if (!isThing(thing)) {
            return UNKNOWN;
        }
        List<List<Integer>> properties = new ArrayList<>();
        properties.add(List.of(1, things.get(thing).kind));
        properties.add(List.of(2, things.get(thing).colour));
        for (int mark = 0; mark < 3; mark++) {
            properties.add(List.of(3, mark));
        }
        for (int mark = 0; mark < 3; mark++) {
            properties.add(List.of(4, mark));
        }
        int left = all();
        int cost = 0;
        for (List<Integer> property : properties) {
            if (Integer.bitCount(left) == 1) {
                break;
            }
            boolean negative = property.get(0) == 4;
            int word = negative ? 3 : property.get(0);
            int those = named(word, property.get(1));
            if (negative) {
                those = all() - those;
            }
            boolean isSo = (those & 1 << thing) != 0;
            if (isSo && Integer.bitCount(left & those) < Integer.bitCount(left)) {
                cost += (cost > 0 ? prices[5] : 0) + prices[word] + (negative ? prices[4] : 0);
                left &= those;
            }
        }
        if (Integer.bitCount(left) > 1) {
            return NONE;
        }
        return cost == 0 ? prices[0] : cost;
    }

    int twin(int thing, int what) {
        if (!isThing(thing)) {
            return UNKNOWN;
        }
        if (what < 0 || what > 2) {
            return OUTSIDE;
        }
        List<List<String>> rounds = rounds();
        List<String> last = rounds.get(rounds.size() - 1);
        if (what == 0) {
            return last.indexOf(last.get(thing));
        }
        if (what == 2) {
            return (int) last.stream().distinct().count();
        }
        for (int round = 0;; round++) {
            if (like(rounds.get(round), thing) == like(last, thing)) {
                return round;
            }
        }
    }

    private int like(List<String> sorts, int thing) {
        return those(i -> sorts.get(i).equals(sorts.get(thing)));
    }

    private List<List<String>> rounds() {
        List<List<String>> rounds = new ArrayList<>();
        List<String> sorts = new ArrayList<>();
        for (Thing t : things) {
            sorts.add(t.kind + "," + t.colour + "," + t.marks);
        }
        rounds.add(sorts);
        // More rounds than things can need: the last ones part nothing.
        for (int round = 1; round < 10; round++) {
            List<String> before = rounds.get(round - 1);
            List<String> next = new ArrayList<>();
            for (int i = 0; i < things.size(); i++) {
                StringBuilder sort = new StringBuilder().append(before.indexOf(before.get(i)));
                for (int j = 0; j < things.size(); j++) {
                    int me = i;
                    int sortmates = like(before, j);
                    sort.append(';').append(Integer.bitCount(those(k -> areBeside(me, k)) & sortmates));
                    sort.append(',').append(Integer.bitCount(those(k -> isTied(me, k)) & sortmates));
                    sort.append(',').append(Integer.bitCount(those(k -> isTied(k, me)) & sortmates));
                }
                next.add(sort.toString());
            }
            rounds.add(next);
        }
        return rounds;
    }

    int breaks() {
        try {
            Saying saying = read();
            int meant = meaning(saying);
            for (int i = 0; i < things.size(); i++) {
                int was = things.get(i).colour;
                for (int colour = 0; colour < 4; colour++) {
                    things.get(i).colour = colour;
                    int means = meaning(saying);
                    things.get(i).colour = was;
                    if (colour != was && means != meant) {
                        return 4 * i + colour;
                    }
                }
            }
            return NONE;
        } catch (Fault f) {
            return NOT;
        }
    }

    int hears(int saying, int thoughts) {
        if (saying < 0 || saying >= kept.size()) {
            return UNKNOWN;
        }
        return thoughts < 0 || thoughts > 20 ? OUTSIDE : heard(saying, thoughts, new HashMap<>());
    }

    int tells(int thing, int thoughts) {
        if (!isThing(thing)) {
            return UNKNOWN;
        }
        return thoughts < 0 || thoughts > 20 ? OUTSIDE : said(thing, thoughts, new HashMap<>());
    }

    int ends() {
        Map<List<Integer>, Integer> memory = new HashMap<>();
        for (int end = 0; end <= 20; end++) {
            boolean still = true;
            for (int saying = 0; saying < kept.size(); saying++) {
                for (int thoughts = end; thoughts < 60; thoughts++) {
                    still &= heard(saying, thoughts, memory) == heard(saying, end, memory);
                }
            }
            if (still) {
                return end;
            }
        }
        return NONE;
    }

    private int heard(int saying, int thoughts, Map<List<Integer>, Integer> memory) {
        List<Integer> key = List.of(0, saying, thoughts);
        Integer known = memory.get(key);
        if (known != null) {
            return known;
        }
        int set = meaning(kept.get(saying));
        if (thoughts > 0) {
            int told = those(i -> said(i, thoughts - 1, memory) == saying);
            set = told == 0 ? heard(saying, thoughts - 1, memory) : told;
        }
        memory.put(key, set);
        return set;
    }

    private int said(int thing, int thoughts, Map<List<Integer>, Integer> memory) {
        List<Integer> key = List.of(1, thing, thoughts);
        Integer known = memory.get(key);
        if (known != null) {
            return known;
        }
        int best = NONE;
        int least = Integer.MAX_VALUE;
        for (int i = 0; i < kept.size(); i++) {
            int taken = heard(i, thoughts, memory);
            int weight = 1000 * Integer.bitCount(taken) + told(kept.get(i), 1);
            if ((taken & 1 << thing) != 0 && weight < least) {
                least = weight;
                best = i;
            }
        }
        memory.put(key, best);
        return best;
    }

    int wrong(int what) {
        if (what < 0 || what > 2) {
            return OUTSIDE;
        }
        try {
            Saying saying = read();
            List<Saying> misheard = misheard(saying);
            if (what == 2) {
                return misheard.size();
            }
            if (misheard.isEmpty()) {
                return NONE;
            }
            int[] tally = new int[256];
            for (Saying other : misheard) {
                tally[meaning(other)]++;
            }
            int most = Arrays.stream(tally).max().getAsInt();
            for (int set = 0;; set++) {
                if (tally[set] == most) {
                    return what == 0 ? set : most;
                }
            }
        } catch (Fault f) {
            return NOT;
        }
    }

    private static List<Saying> misheard(Saying saying) {
        List<Saying> all = new ArrayList<>();
        if (saying.word >= 1 && saying.word <= 3) {
            for (int number = 0; number < (saying.word == 3 ? 3 : 4); number++) {
                if (number != saying.number) {
                    all.add(new Saying(saying.word, number, saying.parts));
                }
            }
        }
        for (List<Integer> alike : List.of(List.of(5, 6, 7), List.of(8, 9), List.of(10, 11), List.of(12, 13))) {
            for (int word : alike) {
                if (alike.contains(saying.word) && word != saying.word) {
                    all.add(new Saying(word, 0, saying.parts));
                }
            }
        }
        for (int i = 0; i < saying.parts.size(); i++) {
            for (Saying part : misheard(saying.parts.get(i))) {
                List<Saying> parts = new ArrayList<>(saying.parts);
                parts.set(i, part);
                all.add(new Saying(saying.word, saying.number, parts));
            }
        }
        return all;
    }

    int name(int thing) {
        if (!isThing(thing)) {
            return UNKNOWN;
        }
        if (named.size() == 12) {
            return FULL;
        }
        named.add(thing);
        return named.size();
    }

    int hush() {
        int were = named.size();
        named.clear();
        return were;
    }

    int talk(int words) {
        if (areNoWords(words)) {
            return OUTSIDE;
        }
        int[] costs = costs(words);
        int total = 0;
        for (int i = 0; i < named.size(); i++) {
            int least = costs[1 << named.get(i)];
            if (i > 0) {
                int it = named.get(i - 1);
                List<Integer> others = new ArrayList<>(named.subList(0, i));
                others.removeIf(thing -> thing == it);
                if (named.get(i) == it) {
                    least = Math.min(least, 1);
                } else if (!others.isEmpty() && others.get(others.size() - 1).equals(named.get(i))) {
                    least = Math.min(least, 2);
                }
            }
            if (least >= 1000) {
                return NONE;
            }
            total += least;
        }
        return total;
    }

    int worth(int words, int what) {
        if (areNoWords(words) || what < 0 || what > 2) {
            return OUTSIDE;
        }
        if (what == 0) {
            return worthNow(words);
        }
        int least = Integer.MAX_VALUE;
        int best = NONE;
        for (int i = 0; i < things.size(); i++) {
            for (int mark = 0; mark < 3; mark++) {
                int marks = things.get(i).marks;
                if ((marks & 1 << mark) == 0) {
                    things.get(i).marks = marks + (1 << mark);
                    int worth = worthNow(words);
                    things.get(i).marks = marks;
                    if (worth < least) {
                        least = worth;
                        best = 4 * i + mark;
                    }
                }
            }
        }
        return best == NONE ? NONE : what == 1 ? least : best;
    }

    private int worthNow(int words) {
        int[] costs = costs(words);
        int worth = 0;
        for (int i = 0; i < things.size(); i++) {
            worth += costs[1 << i] < 1000 ? costs[1 << i] : 50;
        }
        return worth;
    }

    int count(int what) {
        switch (what) {
            case 0:
                return things.size();
            case 1:
                int ties = 0;
                for (int i = 0; i < things.size(); i++) {
                    ties += Integer.bitCount(of(i, 6));
                }
                return ties;
            case 2:
                return text.length();
            case 3:
                return kept.size();
            case 4:
                return named.size();
            default:
                return OUTSIDE;
        }
    }

    private boolean isThing(int thing) {
        return thing >= 0 && thing < things.size();
    }

    private static boolean areNoWords(int words) {
        return words < 0 || words > 32767;
    }

    private boolean areBeside(int one, int other) {
        return Math.abs(things.get(one).place - things.get(other).place) == 1;
    }

    private boolean isTied(int from, int to) {
        return things.get(from).ties[to];
    }

    private int all() {
        return (1 << things.size()) - 1;
    }

    private int those(IntPredicate are) {
        int set = 0;
        for (int i = 0; i < things.size(); i++) {
            if (are.test(i)) {
                set += 1 << i;
            }
        }
        return set;
    }

    private static int arity(int word) {
        return word < 4 ? 0 : word >= 5 && word <= 7 ? 2 : 1;
    }

    private int told(Saying saying, int what) {
        if (what == 0) {
            return meaning(saying);
        }
        List<Integer> codes = saying.codes();
        return what == 2 ? codes.size() : codes.stream().mapToInt(code -> prices[code / 8]).sum();
    }

    private int meaning(Saying saying) {
        int first = saying.parts.size() > 0 ? meaning(saying.parts.get(0)) : 0;
        int second = saying.parts.size() > 1 ? meaning(saying.parts.get(1)) : 0;
        return arity(saying.word) == 0 ? named(saying.word, saying.number) : made(saying.word, first, second);
    }

    private int named(int word, int number) {
        switch (word) {
            case 0:
                return all();
            case 1:
                return those(i -> things.get(i).kind == number);
            case 2:
                return those(i -> things.get(i).colour == number);
            default:
                return those(i -> (things.get(i).marks & 1 << number) != 0);
        }
    }

    private int made(int word, int s, int r) {
        switch (word) {
            case 4:
                return all() - s;
            case 5:
                return s & r;
            case 6:
                return s | r;
            case 7:
                return s - (s & r);
            case 8:
                return those(i -> any(s, j -> areBeside(i, j)));
            case 9:
                return those(i -> any(s, j -> isTied(i, j)));
            case 10:
                return those(i -> in(s, i) && !any(s, j -> things.get(j).size > things.get(i).size));
            case 11:
                return those(i -> in(s, i) && !any(s, j -> things.get(j).size < things.get(i).size));
            case 12:
                return those(i -> in(s, i) && ahead(s, i) == 0);
            case 13:
                return those(i -> in(s, i) && ahead(s, i) == 1);
            default:
                return those(i -> s == 1 << i);
        }
    }

    private static boolean in(int set, int i) {
        return (set & 1 << i) != 0;
    }

    private boolean any(int set, IntPredicate is) {
        return (those(is) & set) != 0;
    }

    private int ahead(int set, int thing) {
        return Integer.bitCount(set & those(j -> things.get(j).place < things.get(thing).place));
    }

    /** The text by recursive descent. */
    private Saying read() throws Fault {
        List<String> tokens = new ArrayList<>();
        List<Integer> places = new ArrayList<>();
        Matcher matcher = TOKEN.matcher(text);
        while (matcher.find()) {
            tokens.add(matcher.group());
            places.add(matcher.start());
        }
        places.add(text.length());
        int[] read = new int[2];
        Saying saying = readSaying(tokens, places, read);
        if (read[0] < tokens.size()) {
            throw new Fault(places.get(read[0]));
        }
        return saying;
    }

    private Saying readSaying(List<String> tokens, List<Integer> places, int[] read) throws Fault {
        int at = read[0]++;
        int word = at < tokens.size() ? NAMES.indexOf(tokens.get(at)) : -1;
        if (word < 0 || ++read[1] > 24) {
            throw new Fault(places.get(at));
        }
        int number = 0;
        if (word >= 1 && word <= 3) {
            String token = read[0] < tokens.size() ? tokens.get(read[0]) : "";
            if (!token.matches(word == 3 ? "[0-2]" : "[0-3]")) {
                throw new Fault(places.get(read[0]));
            }
            number = Integer.parseInt(token);
            read[0]++;
        }
        List<Saying> parts = new ArrayList<>();
        for (int i = 0; i < arity(word); i++) {
            parts.add(readSaying(tokens, places, read));
        }
        return new Saying(word, number, parts);
    }

    /** What the cheapest sayings cost, bettered till nothing changes; 1000 where there is none. */
    private int[] costs(int words) {
        int sets = 1 << things.size();
        int[] costs = new int[sets];
        Arrays.fill(costs, 1000);
        for (int word = 0; word < 4; word++) {
            for (int number = 0; in(words, word) && number < 4 && !(word == 3 && number == 3); number++) {
                int set = named(word, number);
                costs[set] = Math.min(costs[set], prices[word]);
            }
        }
        boolean better = true;
        while (better) {
            better = false;
            for (int s = 0; s < sets; s++) {
                for (int word = 4; costs[s] < 1000 && word < 15; word++) {
                    for (int r = 0; in(words, word) && r < (arity(word) == 2 ? sets : 1); r++) {
                        int cost = prices[word] + costs[s] + (arity(word) == 2 ? costs[r] : 0);
                        if (cost >= 1000) {
                            continue;
                        }
                        int set = made(word, s, r);
                        if (cost < costs[set]) {
                            costs[set] = cost;
                            better = true;
                        }
                    }
                }
            }
        }
        return costs;
    }

    /** The cheapest sayings themselves, the cheaper ones first, each compared word by word. */
    private Map<Integer, List<Integer>> sayings(int words) {
        int[] costs = costs(words);
        Map<Integer, List<Integer>> found = new HashMap<>();
        for (int cost = 1; cost < 1000; cost++) {
            for (int set = 0; set < costs.length; set++) {
                if (costs[set] == cost) {
                    found.put(set, first(set, words, costs, found));
                }
            }
        }
        return found;
    }

    private List<Integer> first(int set, int words, int[] costs, Map<Integer, List<Integer>> found) {
        List<Integer> first = null;
        for (int word = 0; word < 15; word++) {
            if (!in(words, word) || first != null) {
                continue;
            }
            if (arity(word) == 0) {
                for (int number = 3; number >= 0; number--) {
                    boolean is = number == 0 || word != 0 && !(word == 3 && number == 3);
                    if (is && named(word, number) == set && prices[word] == costs[set]) {
                        first = List.of(8 * word + number);
                    }
                }
                continue;
            }
            for (int s = 0; s < costs.length; s++) {
                for (int r = 0; r < (arity(word) == 2 ? costs.length : 1); r++) {
                    int cost = prices[word] + costs[s] + (arity(word) == 2 ? costs[r] : 0);
                    if (cost == costs[set] && made(word, s, r) == set) {
                        List<Integer> codes = new ArrayList<>(List.of(8 * word));
                        codes.addAll(found.get(s));
                        if (arity(word) == 2) {
                            codes.addAll(found.get(r));
                        }
                        first = first == null || Arrays.compare(numbers(codes), numbers(first)) < 0 ? codes : first;
                    }
                }
            }
        }
        return first;
    }

    private static int[] numbers(List<Integer> codes) {
        return codes.stream().mapToInt(Integer::intValue).toArray();
    }
}

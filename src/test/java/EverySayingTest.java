import java.util.ArrayList;
import java.util.Arrays;
import java.util.HashMap;
import java.util.List;
import java.util.Map;
import java.util.Random;

/** Promise 13 against all sayings up to a cost, made one by one: which is the cheapest, and the first of these. */
public final class EverySayingTest {
    private static final int SCENES = 300;
    private static final int COST = 5;
    // More sayings than these are not made; the costs that are left are not compared then.
    private static final int SAYINGS = 400_000;
    private static final Due DUE = new Due("EverySayingTest");

    private record Saying(int[] codes, int set) {
    }

    private final Random random;
    private final GreenDoor door = new GreenDoor();
    private final int things;
    private final int[][] looks = new int[5][8];
    private final int[] ties = new int[8];
    private final int[] prices = new int[15];
    private final int words;
    private final List<List<Saying>> byCost = new ArrayList<>();
    private final Map<Integer, Saying> cheapest = new HashMap<>();
    private final Map<Integer, Integer> costs = new HashMap<>();

    private EverySayingTest(int seed) {
        random = new Random(seed);
        things = seed % 6;
        makeScene();
        for (int word = 0; word < 15; word++) {
            prices[word] = 1 + random.nextInt(1 + seed % 3);
            door.price(word, prices[word]);
        }
        words = seed % 4 == 0 ? 32767 : random.nextInt(32768) | 1 << random.nextInt(4);
    }

    public static void main(String[] args) {
        for (int seed = 0; seed < SCENES; seed++) {
            new EverySayingTest(seed).compare(seed);
        }
        DUE.end();
    }

    /** Few looks and near places, so that many sayings mean the same. */
    private void makeScene() {
        int bound = 1 + random.nextInt(3);
        int place = random.nextInt(4);
        for (int i = 0; i < things; i++) {
            looks[0][i] = random.nextInt(bound);
            looks[1][i] = random.nextInt(bound);
            looks[2][i] = 1 + random.nextInt(bound);
            looks[3][i] = random.nextInt(8) & random.nextInt(8);
            looks[4][i] = place;
            place += 1 + random.nextInt(2);
        }
        for (int i = 0; i < things; i++) {
            // Places in another order than things.
            int other = random.nextInt(things);
            int was = looks[4][i];
            looks[4][i] = looks[4][other];
            looks[4][other] = was;
        }
        for (int i = 0; i < things; i++) {
            door.thing(looks[0][i], looks[1][i], looks[2][i], looks[4][i]);
            door.paint(i, 3, looks[3][i]);
        }
        for (int i = 0; i < things; i++) {
            int to = random.nextInt(things);
            if (random.nextBoolean() && door.tie(i, to) > 0) {
                ties[i] |= 1 << to;
            }
        }
    }

    private void compare(int seed) {
        byCost.add(List.of());
        int made = 0;
        int cost = 0;
        while (cost < COST && made < SAYINGS) {
            cost++;
            byCost.add(sayingsOf(cost));
            made += byCost.get(cost).size();
            keepFirst(cost);
        }
        for (int set = 0; set < 1 << things; set++) {
            String call = "scene " + seed + ", words " + words + ", set " + set;
            Saying due = cheapest.get(set);
            int told = door.cheapest(set, words, -1);
            if (due == null) {
                DUE.is(call + " costs more than " + cost, told == -1 || told > cost ? 1 : 0, 1);
                continue;
            }
            DUE.is(call + " costs", told, costs.get(set));
            DUE.is(call + " has words", door.cheapest(set, words, -2), due.codes.length);
            for (int i = 0; i < due.codes.length; i++) {
                DUE.is(call + ", word " + i, door.cheapest(set, words, i), due.codes[i]);
            }
            DUE.is(call + ", behind its words", door.cheapest(set, words, due.codes.length), -1);
        }
    }

    private List<Saying> sayingsOf(int cost) {
        List<Saying> sayings = new ArrayList<>();
        for (int word = 0; word < 15; word++) {
            int left = cost - prices[word];
            if ((words >> word & 1) == 0 || left < 0) {
                continue;
            }
            if (word < 4) {
                for (int number = 0; left == 0 && number < (word == 0 ? 1 : word == 3 ? 3 : 4); number++) {
                    sayings.add(new Saying(new int[] {8 * word + number}, named(word, number)));
                }
            } else if (word < 5 || word > 7) {
                for (Saying part : byCost.get(left)) {
                    sayings.add(new Saying(row(word, part.codes, new int[0]), made(word, part.set, 0)));
                }
            } else {
                for (int half = 1; half < left; half++) {
                    addJoined(sayings, word, byCost.get(half), byCost.get(left - half));
                }
            }
        }
        return sayings;
    }

    private void addJoined(List<Saying> sayings, int word, List<Saying> firsts, List<Saying> seconds) {
        for (Saying first : firsts) {
            for (Saying second : seconds) {
                sayings.add(new Saying(row(word, first.codes, second.codes), made(word, first.set, second.set)));
            }
        }
    }

    private static int[] row(int word, int[] first, int[] second) {
        int[] row = new int[1 + first.length + second.length];
        row[0] = 8 * word;
        System.arraycopy(first, 0, row, 1, first.length);
        System.arraycopy(second, 0, row, 1 + first.length, second.length);
        return row;
    }

    private void keepFirst(int cost) {
        for (Saying saying : byCost.get(cost)) {
            Integer known = costs.get(saying.set);
            if (known == null || known == cost && Arrays.compare(saying.codes, cheapest.get(saying.set).codes) < 0) {
                cheapest.put(saying.set, saying);
                costs.put(saying.set, cost);
            }
        }
    }

    private int named(int word, int number) {
        int set = 0;
        for (int i = 0; i < things; i++) {
            boolean is = word == 0 || word < 3 && looks[word - 1][i] == number
                    || word == 3 && (looks[3][i] >> number & 1) == 1;
            set |= is ? 1 << i : 0;
        }
        return set;
    }

    private int made(int word, int one, int other) {
        switch (word) {
            case 4:
                return (1 << things) - 1 ^ one;
            case 5:
                return one & other;
            case 6:
                return one | other;
            case 7:
                return one & ~other;
            case 14:
                return Integer.bitCount(one) == 1 ? one : 0;
            default:
                int set = 0;
                for (int i = 0; i < things; i++) {
                    set |= isMade(word, one, i) ? 1 << i : 0;
                }
                return set;
        }
    }

    private boolean isMade(int word, int set, int thing) {
        int beside = 0;
        int ahead = 0;
        int greater = 0;
        int less = 0;
        for (int i = 0; i < things; i++) {
            if ((set >> i & 1) == 1) {
                beside += Math.abs(looks[4][i] - looks[4][thing]) == 1 ? 1 : 0;
                ahead += looks[4][i] < looks[4][thing] ? 1 : 0;
                greater += looks[2][i] > looks[2][thing] ? 1 : 0;
                less += looks[2][i] < looks[2][thing] ? 1 : 0;
            }
        }
        boolean isIn = (set >> thing & 1) == 1;
        switch (word) {
            case 8:
                return beside > 0;
            case 9:
                return (ties[thing] & set) != 0;
            case 10:
                return isIn && greater == 0;
            case 11:
                return isIn && less == 0;
            case 12:
                return isIn && ahead == 0;
            default:
                return isIn && ahead == 1;
        }
    }
}

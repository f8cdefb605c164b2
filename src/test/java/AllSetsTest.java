import java.util.List;
import java.util.Random;

/** Promise 13 for every set of crowded scenes: the cheapest sayings word by word, as PlainDoor finds them. */
public final class AllSetsTest {
    private static final int SCENES = 80;
    private static final int TIES = 12;
    private static final int CALLS = 512;
    private static final Due DUE = new Due("AllSetsTest");

    public static void main(String[] args) {
        for (int scene = 0; scene < SCENES; scene++) {
            compare(scene, 6 + scene % 3);
        }
        DUE.end();
    }

    private static void compare(int seed, int things) {
        PlainDoor plain = new PlainDoor();
        make(new Random(seed), things, new GreenDoor(), plain);
        Random random = new Random(seed);
        int words = 1 + 2 + 8 + random.nextInt(32768) | random.nextInt(32768);
        GreenDoor door = new GreenDoor();
        int calls = CALLS;
        for (int set = 0; set < 1 << things; set++) {
            List<Integer> codes = plain.codes(set, words);
            calls += 1 + codes.size();
            if (calls > CALLS) {
                door = new GreenDoor();
                calls = make(new Random(seed), things, door, new PlainDoor()) + 1 + codes.size();
            }
            DUE.is("words of " + set, door.cheapest(set, words, -2), codes.isEmpty() ? -1 : codes.size());
            for (int i = 0; i < codes.size(); i++) {
                DUE.is("word " + i + " of " + set, door.cheapest(set, words, i), codes.get(i));
            }
        }
    }

    /** Makes the same scene in both; how many calls that took of each. */
    private static int make(Random random, int things, GreenDoor door, PlainDoor plain) {
        for (int i = 0; i < things; i++) {
            int kind = random.nextInt(4);
            int colour = random.nextInt(4);
            int size = 1 + random.nextInt(4);
            int place = 2 * i + random.nextInt(2);
            int marks = random.nextInt(8);
            door.thing(kind, colour, size, place);
            plain.thing(kind, colour, size, place);
            door.paint(i, 3, marks);
            plain.paint(i, 3, marks);
        }
        for (int i = 0; i < TIES; i++) {
            int from = random.nextInt(things);
            int to = random.nextInt(things);
            door.tie(from, to);
            plain.tie(from, to);
        }
        for (int word = 0; word < 15; word++) {
            int price = 1 + random.nextInt(1 + random.nextInt(4));
            door.price(word, price);
            plain.price(word, price);
        }
        return 2 * things + TIES + 15;
    }
}

import java.util.Random;

/** Long runs of calls, each answered by GreenDoor and by PlainDoor. */
public final class RandomRunsTest {
    private static final int RUNS = 150;
    private static final int CALLS = 512;
    // A step is not begun if it might make a call more than an object may be used for.
    private static final int CALLS_OF_A_STEP = 60;
    private static final int[] WILD = {Integer.MIN_VALUE, -5, -3, -2, -1, 0, 1, 2, 3, 4, 7, 8, 9, 15, 16, 20, 21, 24,
        255, 256, 32767, 32768, Integer.MAX_VALUE};

    private final Due due = new Due("RandomRunsTest");
    private final Random random;
    private final int run;
    private final int most;
    private GreenDoor door;
    private PlainDoor plain;
    private int calls;
    private int words;

    private RandomRunsTest(int run) {
        this.run = run;
        random = new Random(run);
        most = 1 + run % 8;
    }

    public static void main(String[] args) {
        int wrong = 0;
        for (int run = 0; run < RUNS; run++) {
            RandomRunsTest test = new RandomRunsTest(run);
            test.go();
            wrong += test.due.anyWrong() ? 1 : 0;
        }
        System.out.println("RandomRunsTest: " + RUNS + " runs, " + wrong + " not as due");
        if (wrong > 0) {
            System.exit(1);
        }
    }

    private void go() {
        door = new GreenDoor();
        plain = new PlainDoor();
        newWords();
        if (run % 3 > 0) {
            for (int i = 0; i < most; i++) {
                addThing();
            }
        }
        // What is dear to compare is asked less often in larger scenes.
        int dear = most > 6 ? 25 : most > 4 ? 6 : 1;
        while (calls <= CALLS - CALLS_OF_A_STEP && !due.anyWrong()) {
            int sort = random.nextInt(100);
            if (sort < 30) {
                changeScene();
            } else if (sort < 55) {
                askText();
            } else if (sort < 75) {
                askThoughts();
            } else if (sort < 80) {
                askWildly();
            } else if (random.nextInt(dear) == 0) {
                askWords();
            } else {
                calls++;
            }
        }
    }

    private void is(String call, int got, int want) {
        calls++;
        due.is("run " + run + ", call " + calls + ", " + call, got, want);
    }

    private int below(int bound) {
        return random.nextInt(bound);
    }

    private int aThing() {
        return below(20) == 0 ? below(10) - 1 : below(most);
    }

    private void newWords() {
        words = below(3) == 0 ? 32767 : below(32768) | (below(2) == 0 ? below(32768) : 0);
    }

    private void addThing() {
        int k = below(2 + below(3));
        int c = below(2 + below(3));
        int s = 1 + below(9);
        int p = below(16);
        is("thing " + k + " " + c + " " + s + " " + p, door.thing(k, c, s, p), plain.thing(k, c, s, p));
    }

    private void changeScene() {
        int a = aThing();
        int b = aThing();
        int c = below(5);
        int v = below(11) - 1;
        switch (below(6)) {
            case 0:
                if (plain.count(0) < most || below(10) == 0 && most == 8) {
                    addThing();
                }
                break;
            case 1:
            case 2:
                is("paint " + a + " " + c + " " + v, door.paint(a, c, v), plain.paint(a, c, v));
                break;
            case 3:
                is("tie " + a + " " + b, door.tie(a, b), plain.tie(a, b));
                break;
            case 4:
                int word = below(16);
                int price = below(2) == 0 ? 1 : below(10);
                is("price " + word + " " + price, door.price(word, price), plain.price(word, price));
                break;
            default:
                int what = below(8);
                is("of " + a + " " + what, door.of(a, what), plain.of(a, what));
                is("count " + what, door.count(what), plain.count(what));
        }
    }

    private void askText() {
        if (plain.count(2) > 0 && below(2) == 0) {
            is("erase", door.erase(), plain.erase());
        }
        StringBuilder text = new StringBuilder();
        addSaying(text, 1 + below(below(4) == 0 ? 30 : 9));
        if (below(4) == 0 && text.length() > 0) {
            text.setCharAt(below(text.length()), (char) (below(2) == 0 ? below(256) : ' '));
        }
        for (int at = 0; at < text.length(); at += 8) {
            String piece = text.substring(at, Math.min(text.length(), at + 8));
            long bytes = Due.bytes(piece);
            is("write '" + piece + "'", door.write(bytes, piece.length()), plain.write(bytes, piece.length()));
        }
        is("fault", door.fault(), plain.fault());
        int what = below(4);
        is("says " + what, door.says(what), plain.says(what));
        is("breaks", door.breaks(), plain.breaks());
        is("wrong " + what, door.wrong(what), plain.wrong(what));
        is("wrong 0", door.wrong(0), plain.wrong(0));
        if (below(3) == 0) {
            is("keep", door.keep(), plain.keep());
        }
        int saying = below(9) - (below(9) == 0 ? 1 : 0);
        is("kept " + saying + " " + what, door.kept(saying, what), plain.kept(saying, what));
    }

    /** A saying of about so many words, sometimes without a blank where one isn't needed. */
    private int addSaying(StringBuilder text, int about) {
        int word = about <= 1 ? below(4) : about == 2 ? 8 + below(7) : 4 + below(11);
        text.append(below(9) == 0 ? "  " : text.length() == 0 ? "" : " ").append(PlainDoor.NAMES.get(word));
        if (word >= 1 && word <= 3) {
            text.append(below(3) == 0 ? "" : " ").append(below(word == 3 ? 3 : 4) + (below(40) == 0 ? 9 : 0));
            return 1;
        }
        if (word >= 5 && word <= 7) {
            int first = 1 + addSaying(text, 1 + below(Math.max(1, about - 2)));
            return first + addSaying(text, about - first);
        }
        return word == 0 ? 1 : 1 + addSaying(text, about - 1);
    }

    private void askThoughts() {
        int thing = aThing();
        int saying = below(9) - (below(9) == 0 ? 1 : 0);
        int thoughts = below(5) == 0 ? below(23) - 1 : below(4);
        switch (below(6)) {
            case 0:
                is("hears " + saying + " " + thoughts, door.hears(saying, thoughts), plain.hears(saying, thoughts));
                break;
            case 1:
                is("tells " + thing + " " + thoughts, door.tells(thing, thoughts), plain.tells(thing, thoughts));
                break;
            case 2:
                is("ends", door.ends(), plain.ends());
                break;
            case 3:
                is("quick " + thing, door.quick(thing), plain.quick(thing));
                break;
            case 4:
                for (int what = 0; what < 4; what++) {
                    is("twin " + thing + " " + what, door.twin(thing, what), plain.twin(thing, what));
                }
                break;
            default:
                is("name " + thing, door.name(thing), plain.name(thing));
                if (below(20) == 0) {
                    is("hush", door.hush(), plain.hush());
                }
        }
    }

    private void askWords() {
        if (below(4) == 0) {
            newWords();
        }
        switch (below(6)) {
            case 0:
                is("sets " + words, door.sets(words), plain.sets(words));
                break;
            case 1:
                is("talk " + words, door.talk(words), plain.talk(words));
                break;
            case 2:
                int what = below(4);
                is("worth " + words + " " + what, door.worth(words, what), plain.worth(words, what));
                break;
            default:
                int set = below(1 << plain.count(0));
                int length = plain.cheapest(set, words, -2);
                is("cheapest " + set + " " + words + " -2", door.cheapest(set, words, -2), length);
                is("cheapest " + set + " " + words + " -1", door.cheapest(set, words, -1),
                        plain.cheapest(set, words, -1));
                for (int i = 0; i <= Math.min(length, most > 6 ? 3 : 40); i++) {
                    is("cheapest " + set + " " + words + " " + i, door.cheapest(set, words, i),
                            plain.cheapest(set, words, i));
                }
        }
    }

    private int wild() {
        return WILD[below(WILD.length)];
    }

    /** Each call with numbers from its bounds and far beyond them. */
    private void askWildly() {
        int a = wild();
        int b = wild();
        int c = wild();
        int d = wild();
        String call = " " + a + " " + b + " " + c + " " + d;
        long bytes = random.nextLong();
        switch (below(20)) {
            case 0:
                is("thing" + call, door.thing(a & 3, b, c, d), plain.thing(a & 3, b, c, d));
                break;
            case 1:
                is("paint" + call, door.paint(a, b, c), plain.paint(a, b, c));
                break;
            case 2:
                is("tie" + call, door.tie(a, b), plain.tie(a, b));
                break;
            case 3:
                is("of" + call, door.of(a, b), plain.of(a, b));
                break;
            case 4:
                is("price" + call, door.price(a, b), plain.price(a, b));
                break;
            case 5:
                is("write" + call, door.write(bytes, a), plain.write(bytes, a));
                break;
            case 6:
                is("says" + call, door.says(a), plain.says(a));
                break;
            case 7:
                is("kept" + call, door.kept(a, b), plain.kept(a, b));
                break;
            case 8:
                if (most < 6 || b < 0 || b > 32767 || c < -2) {
                    is("cheapest" + call, door.cheapest(a, b, c), plain.cheapest(a, b, c));
                }
                break;
            case 9:
                is("sets" + call, door.sets(a | 1 << 20), plain.sets(a | 1 << 20));
                break;
            case 10:
                is("quick" + call, door.quick(a), plain.quick(a));
                break;
            case 11:
                is("twin" + call, door.twin(a, b), plain.twin(a, b));
                break;
            case 12:
                is("hears" + call, door.hears(a, b), plain.hears(a, b));
                break;
            case 13:
                is("tells" + call, door.tells(a, b), plain.tells(a, b));
                break;
            case 14:
                is("wrong" + call, door.wrong(a), plain.wrong(a));
                break;
            case 15:
                is("name" + call, door.name(a), plain.name(a));
                break;
            case 16:
                is("talk" + call, door.talk(a | 1 << 31), plain.talk(a | 1 << 31));
                break;
            case 17:
                if (most < 4 || b < 0 || b > 2) {
                    is("worth" + call, door.worth(a, b), plain.worth(a, b));
                }
                break;
            default:
                is("count" + call, door.count(a), plain.count(a));
        }
    }
}

import java.io.IOException;
import java.nio.file.Files;
import java.nio.file.Path;
import java.util.ArrayList;
import java.util.List;
import java.util.regex.Matcher;
import java.util.regex.Pattern;

/** What README.md shows of the class: each call that stands there, in its order, with its answer. */
public final class ReadmeTest {
    private static final Due DUE = new Due("ReadmeTest");
    private static final Pattern SHOWN = Pattern.compile("(?m)^(door\\..*\\));\\s*// (-?\\d+): ");

    private final List<String> calls = new ArrayList<>();
    private final List<Integer> answers = new ArrayList<>();
    private int at;

    public static void main(String[] args) throws IOException {
        ReadmeTest test = new ReadmeTest(Files.readString(Path.of("README.md")));
        test.go(new GreenDoor());
        DUE.is("calls that no test makes", test.calls.size() - test.at, 0);
        DUE.end();
    }

    private ReadmeTest(String readme) {
        Matcher shown = SHOWN.matcher(readme);
        while (shown.find()) {
            calls.add(shown.group(1));
            answers.add(Integer.parseInt(shown.group(2)));
        }
    }

    private void is(String call, int got) {
        boolean stands = at < calls.size() && calls.get(at).equals(call);
        DUE.is(call + " stands in README.md", stands ? 1 : 0, 1);
        if (stands) {
            DUE.is(call, got, answers.get(at));
            at++;
        }
    }

    private void go(GreenDoor door) {
        is("door.thing(0, 0, 3, 2)", door.thing(0, 0, 3, 2));
        is("door.thing(0, 1, 5, 3)", door.thing(0, 1, 5, 3));
        is("door.paint(1, 3, 4)", door.paint(1, 3, 4));
        is("door.tie(1, 0)", door.tie(1, 0));
        is("door.write(0x6f6c6f6320746f6eL, 8)", door.write(0x6f6c6f6320746f6eL, 8));
        is("door.write(0x30207275L, 4)", door.write(0x30207275L, 4));
        is("door.fault()", door.fault());
        is("door.says(0)", door.says(0));
        is("door.wrong(0)", door.wrong(0));
        is("door.breaks()", door.breaks());
        is("door.keep()", door.keep());
        is("door.hears(0, 1)", door.hears(0, 1));
        is("door.tells(0, 1)", door.tells(0, 1));
        is("door.cheapest(2, 32767, -1)", door.cheapest(2, 32767, -1));
        is("door.cheapest(2, 32767, -2)", door.cheapest(2, 32767, -2));
        is("door.cheapest(2, 32767, 0)", door.cheapest(2, 32767, 0));
        is("door.cheapest(2, 20, -1)", door.cheapest(2, 20, -1));
        is("door.price(2, 9)", door.price(2, 9));
        is("door.cheapest(2, 32767, 0)", door.cheapest(2, 32767, 0));
        is("door.name(1)", door.name(1));
        is("door.name(1)", door.name(1));
        is("door.talk(32767)", door.talk(32767));
        is("door.worth(32767, 2)", door.worth(32767, 2));
    }
}

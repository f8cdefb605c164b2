import java.io.IOException;
import java.nio.file.Files;
import java.nio.file.Path;
import java.util.ArrayList;
import java.util.List;
import java.util.function.Consumer;
import java.util.function.ToIntFunction;
import java.util.regex.Matcher;
import java.util.regex.Pattern;

/**
 * What is due at the edges that the document names. Each check belongs to a promise and to words of the document,
 * which must stand there; at the end no words that name an edge may be left without a check.
 */
final class Edges {
    /** What tells a bound, what is empty or full, when there is none, and what is refused. */
    private static final Pattern EDGE = Pattern.compile("\\d+ \\.\\. \\d+|\\bat (?:most|first)\\b|\\b(?:none|one apart"
            + "|once|twice|empty|too soon|25th|behind|fewer|just one|without|till|if there is|of several|that itself"
            + "|least|greatest|below|bits|all|itself|UNKNOWN|OUTSIDE|NOT|FULL|NONE)\\b");

    private final Due due = new Due("EdgesTest");
    private final List<String> names = new ArrayList<>();
    private final List<String> sections = new ArrayList<>();
    private final List<boolean[]> checked = new ArrayList<>();
    private String sentence = "";
    private int asked;

    Edges(Path document) throws IOException {
        for (String section : Files.readString(document).replaceAll("```\\w*", "").split("\n## ")) {
            int end = section.indexOf('\n');
            names.add(section.substring(0, end));
            sections.add(section.substring(end).replaceAll("\\s+", " "));
            checked.add(new boolean[sections.get(sections.size() - 1).length()]);
        }
    }

    /** The checks that follow belong to this promise and to these words of it, or of what stands ahead of all. */
    void sentence(int promise, String words) {
        endSentence();
        sentence = "promise " + promise + ", '" + words + "': ";
        boolean stands = false;
        for (int i = 0; i < names.size(); i++) {
            String name = names.get(i);
            if (!name.startsWith("Promise ") || name.startsWith("Promise " + promise + ":")) {
                stands |= check(i, words);
            }
        }
        due.is(sentence + "stands in the document", stands ? 1 : 0, 1);
        asked = 0;
    }

    private boolean check(int section, String words) {
        String text = sections.get(section);
        boolean stands = false;
        for (int at = text.indexOf(words); at >= 0; at = text.indexOf(words, at + 1)) {
            stands = true;
            for (int i = 0; i < words.length(); i++) {
                checked.get(section)[at + i] = true;
            }
        }
        return stands;
    }

    private void endSentence() {
        if (!sentence.isEmpty()) {
            due.is(sentence + "has a check", asked > 0 ? 1 : 0, 1);
        }
    }

    void is(String call, long got, long want) {
        asked++;
        due.is(sentence + call, got, want);
    }

    /** Ends with exit code 1 if an answer was not due, or if words that name an edge have no check. */
    void end() {
        endSentence();
        for (int i = 0; i < sections.size(); i++) {
            if (names.get(i).startsWith("Promise ") || names.get(i).equals("Terms")) {
                lookForUnchecked(i);
            }
        }
        due.end();
    }

    private void lookForUnchecked(int section) {
        String text = sections.get(section);
        Matcher edge = EDGE.matcher(text);
        while (edge.find()) {
            String around = text.substring(Math.max(0, edge.start() - 40), Math.min(text.length(), edge.end() + 20));
            due.is(names.get(section) + ": '" + around + "' is checked", checked.get(section)[edge.start()] ? 1 : 0, 1);
        }
    }

    /** A refused call: answers so, and leaves a door like one that was not called. */
    void refused(String call, Consumer<GreenDoor> makings, ToIntFunction<GreenDoor> refused, int want) {
        GreenDoor door = new GreenDoor();
        makings.accept(door);
        is(call, refused.applyAsInt(door), want);
        GreenDoor untouched = new GreenDoor();
        makings.accept(untouched);
        is(call + " changes nothing", state(door).equals(state(untouched)) ? 1 : 0, 1);
    }

    /** All that a door answers of itself, in less than 300 calls; it is of no further use then. */
    static List<Integer> state(GreenDoor d) {
        List<Integer> state = new ArrayList<>();
        for (int what = 0; what < 5; what++) {
            state.add(d.count(what));
        }
        for (int thing = 0; thing < d.count(0); thing++) {
            addThing(state, d, thing);
        }
        for (int saying = 0; saying < d.count(3); saying++) {
            for (int what = 0; what < 3; what++) {
                state.add(d.kept(saying, what));
            }
            state.add(d.hears(saying, 1));
        }
        state.addAll(List.of(d.fault(), d.says(0), d.says(1), d.says(2), d.breaks(), d.wrong(0), d.wrong(2), d.ends()));
        state.addAll(List.of(d.sets(32767), d.talk(32767), d.worth(32767, 0), d.worth(32759, 0)));
        for (int word = 0; word < 15; word++) {
            state.add(d.price(word, 1));
        }
        state.addAll(List.of(d.hush(), d.erase()));
        return state;
    }

    private static void addThing(List<Integer> state, GreenDoor d, int thing) {
        for (int what = 0; what < 7; what++) {
            state.add(d.of(thing, what));
        }
        state.addAll(List.of(d.cheapest(1 << thing, 32767, -1), d.quick(thing), d.twin(thing, 1), d.tells(thing, 0)));
    }

    /** A scene that is neither empty nor full, with a text, kept sayings, prices and a talk. */
    static void some(GreenDoor d) {
        d.thing(0, 1, 2, 3);
        d.thing(3, 0, 9, 4);
        d.thing(1, 3, 1, 15);
        d.paint(1, 3, 5);
        d.tie(0, 1);
        d.tie(2, 0);
        keep(d, "not kind 0");
        keep(d, "all");
        d.price(1, 3);
        d.price(14, 9);
        d.name(2);
        d.name(0);
        Due.tell(d, "or beside colour 1 mark 0 ");
    }

    /** As some, but what stands in the text has a fault. */
    static void someFaulty(GreenDoor d) {
        some(d);
        Due.append(d, " all");
    }

    /** As many of all as there may be. */
    static void full(GreenDoor d) {
        fullScene(d);
        for (int i = 0; i < 8; i++) {
            keep(d, i % 2 == 0 ? "kind " + i / 2 : "not leftmost colour " + i / 2);
        }
        for (int i = 0; i < 12; i++) {
            d.name(i * 5 % 8);
        }
        fill(d, "and kind 1 colour 2");
    }

    /** As full, but what stands in the text has a fault. */
    static void fullFaulty(GreenDoor d) {
        full(d);
        fill(d, "and kind 1");
    }

    /** Eight things, each tied to all others. */
    static void fullScene(GreenDoor d) {
        for (int i = 0; i < 8; i++) {
            d.thing(i / 2, i * 3 % 4, 1 + i, i < 4 ? i : i + 8);
            d.paint(i, 3, i);
        }
        for (int i = 0; i < 64; i++) {
            if (i / 8 != i % 8) {
                d.tie(i / 8, i % 8);
            }
        }
    }

    static void nothing(GreenDoor d) {
    }

    static void keep(GreenDoor d, String text) {
        Due.tell(d, text);
        d.keep();
    }

    /** Makes a text of 160 bytes, blanks behind this one. */
    static void fill(GreenDoor d, String text) {
        Due.tell(d, text + " ".repeat(160 - text.length()));
    }

    /** A thing for each place, all of one look. */
    static void alike(GreenDoor d, int... places) {
        for (int place : places) {
            d.thing(0, 0, 1, place);
        }
    }
}

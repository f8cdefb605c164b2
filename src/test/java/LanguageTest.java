import java.io.IOException;
import java.lang.reflect.Constructor;
import java.lang.reflect.Field;
import java.lang.reflect.Method;
import java.lang.reflect.Modifier;
import java.nio.charset.StandardCharsets;
import java.nio.file.Files;
import java.nio.file.Path;
import java.util.HashSet;
import java.util.List;
import java.util.Set;
import java.util.regex.Matcher;
import java.util.regex.Pattern;

/** What LANGUAGE.md rules out, as far as the text and the compiled classes tell. */
public final class LanguageTest {
    private static final Due DUE = new Due("LanguageTest");
    private static final Path FILE = Path.of("src/main/java/GreenDoor.java");
    private static final List<String> FACE = List.of("thing(int,int,int,int)", "paint(int,int,int)", "tie(int,int)",
            "of(int,int)", "price(int,int)", "write(long,int)", "erase()", "fault()", "says(int)", "keep()",
            "kept(int,int)", "cheapest(int,int,int)", "sets(int)", "quick(int)", "twin(int,int)", "breaks()",
            "hears(int,int)", "tells(int,int)", "ends()", "wrong(int)", "name(int)", "hush()", "talk(int)",
            "worth(int,int)", "count(int)");

    public static void main(String[] args) throws IOException {
        String code = withoutComments(Files.readString(FILE, StandardCharsets.US_ASCII));
        words(code);
        makes(code);
        methods(code);
        face();
        inside();
        constants();
        DUE.end();
    }

    private static String withoutComments(String code) {
        return code.replaceAll("(?s)/\\*.*?\\*/", " ").replaceAll("//[^\n]*", " ");
    }

    private static void words(String code) {
        String plain = code.replaceAll("\"[^\"]*\"", "\"\"");
        for (String word : List.of("throw", "throws", "try", "catch", "synchronized", "assert", "package", "Object",
                "Exception", "yield", "var", "System.out", "Thread", "Random", "nanoTime", "equals", "hashCode",
                "toString", "native", "volatile", "transient", "sealed", "protected")) {
            DUE.is("no " + word, Pattern.compile("\\b" + Pattern.quote(word) + "\\b").matcher(plain).find() ? 1 : 0, 0);
        }
        DUE.is("no lambda", plain.contains("->") ? 1 : 0, 0);
        DUE.is("no method reference", plain.contains("::") ? 1 : 0, 0);
        DUE.is("no texts joined by +", Pattern.compile("\"\\s*\\+|\\+\\s*\"").matcher(plain).find() ? 1 : 0, 0);
        DUE.is("no division", Pattern.compile("[^/*]/[^/*]|%").matcher(plain).find() ? 1 : 0, 0);
        Matcher imports = Pattern.compile("import ([^;]*);").matcher(plain);
        while (imports.find()) {
            DUE.is("import " + imports.group(1), imports.group(1).equals("java.util.Arrays") ? 1 : 0, 1);
        }
    }

    /** Rows are made with the objects that hold them, so that no call makes any. */
    private static void makes(String code) {
        for (String line : code.split("\n")) {
            if (line.contains("new ")) {
                boolean isField = line.matches(" {4,8}(private )?final .* = new .*;");
                boolean isShelf = line.matches(" {12}shelf\\[i\\] = new Saying\\(\\);");
                DUE.is("made once: " + line.trim(), isField || isShelf ? 1 : 0, 1);
            }
        }
    }

    /** A method is what stands between its opening line and the brace that ends it, four signs to the right or eight. */
    private static void methods(String code) {
        String[] lines = code.split("\n");
        int from = -1;
        String indent = "";
        for (int i = 0; i < lines.length; i++) {
            Matcher head = Pattern.compile("^( {4}| {8})[A-Za-z].*\\) \\{$").matcher(lines[i]);
            if (head.find()) {
                from = i;
                indent = head.group(1);
                DUE.is("parameters of " + lines[i].trim(), lines[i].split(",").length <= 7 ? 1 : 0, 1);
            } else if (from >= 0 && lines[i].equals(indent + "}")) {
                DUE.is("lines of " + lines[from].trim(), i - from < 60 ? 1 : 0, 1);
                from = -1;
            }
        }
    }

    private static void face() {
        DUE.is("public and final", GreenDoor.class.getModifiers() & (Modifier.PUBLIC | Modifier.FINAL),
                Modifier.PUBLIC | Modifier.FINAL);
        Set<String> found = new HashSet<>();
        for (Method m : GreenDoor.class.getDeclaredMethods()) {
            String text = m.toString();
            boolean isPublic = Modifier.isPublic(m.getModifiers());
            DUE.is(text + " is public or private", isPublic || Modifier.isPrivate(m.getModifiers()) ? 1 : 0, 1);
            if (isPublic) {
                found.add(text.substring(text.indexOf("GreenDoor.") + 10));
                DUE.is(text + " answers an int", m.getReturnType() == int.class ? 1 : 0, 1);
            }
        }
        DUE.is("the face", found.equals(new HashSet<>(FACE)) ? 1 : 0, 1);
        Constructor<?>[] constructors = GreenDoor.class.getDeclaredConstructors();
        DUE.is("one constructor", constructors.length, 1);
        DUE.is("a public one of nothing", constructors[0].toString().equals("public GreenDoor()") ? 1 : 0, 1);
        Set<String> constants = new HashSet<>();
        for (Field f : GreenDoor.class.getDeclaredFields()) {
            if (Modifier.isPublic(f.getModifiers())) {
                constants.add(f.getName());
            } else {
                DUE.is(f + " is private", Modifier.isPrivate(f.getModifiers()) ? 1 : 0, 1);
            }
        }
        DUE.is("the constants", constants.equals(Set.of("NONE", "UNKNOWN", "OUTSIDE", "NOT", "FULL")) ? 1 : 0, 1);
    }

    private static void inside() {
        Set<String> names = new HashSet<>();
        FACE.forEach(call -> names.add(call.substring(0, call.indexOf('('))));
        Class<?>[] inside = GreenDoor.class.getDeclaredClasses();
        DUE.is("some twelve classes", inside.length <= 11 ? 1 : 0, 1);
        for (Class<?> c : inside) {
            DUE.is(c + " is static", Modifier.isStatic(c.getModifiers()) ? 1 : 0, 1);
            for (Method m : c.getDeclaredMethods()) {
                DUE.is(m + " has a name of its own", names.contains(m.getName()) ? 1 : 0, 0);
            }
            int fields = 0;
            for (Field f : c.getDeclaredFields()) {
                boolean isStatic = Modifier.isStatic(f.getModifiers());
                fields += isStatic ? 0 : 1;
                DUE.is(f + " is no changing static", isStatic && !Modifier.isFinal(f.getModifiers()) ? 1 : 0, 0);
            }
            DUE.is(c + " has few fields", fields <= 20 ? 1 : 0, 1);
        }
        for (Method m : GreenDoor.class.getDeclaredMethods()) {
            boolean isOwn = Modifier.isPublic(m.getModifiers()) || !names.contains(m.getName());
            DUE.is(m + " has a name of its own", isOwn ? 1 : 0, 1);
        }
    }

    private static void constants() {
        DUE.is("NONE", GreenDoor.NONE, -1);
        DUE.is("UNKNOWN", GreenDoor.UNKNOWN, -2);
        DUE.is("OUTSIDE", GreenDoor.OUTSIDE, -3);
        DUE.is("NOT", GreenDoor.NOT, -4);
        DUE.is("FULL", GreenDoor.FULL, -5);
    }
}

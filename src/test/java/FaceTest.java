import java.io.IOException;
import java.lang.reflect.Constructor;
import java.lang.reflect.Field;
import java.lang.reflect.Member;
import java.lang.reflect.Method;
import java.lang.reflect.Modifier;
import java.nio.file.Files;
import java.nio.file.Path;
import java.util.ArrayList;
import java.util.Arrays;
import java.util.HashMap;
import java.util.HashSet;
import java.util.List;
import java.util.Map;
import java.util.Set;
import java.util.TreeSet;
import java.util.regex.Matcher;
import java.util.regex.Pattern;

/** The class shows the document's face and nothing else, and keeps to what of LANGUAGE.md can be seen from outside. */
public final class FaceTest {
    private static final String[] FACE = {"int add(int, int)", "int clear()", "int take(int, int)", "int of(int, int)",
        "long round(int, int)", "long middle(int, int)", "long off(int, int)", "int worst(int)", "int need(int)",
        "int cover()", "int poor()", "int eighth(int)", "int points(int, int)", "int helps()", "int trim(int)",
        "int fewest(int, int)", "int image(int)", "int restore(int)", "int count(int)"};
    private static final String[] CONSTANTS = {"UNKNOWN", "OUTSIDE", "STATE", "FULL", "NO", "NONE", "BELOW"};
    private static final String[] RULED_OUT = {"throw", "throws", "try", "catch", "finally", "synchronized", "assert",
        "import", "package", "hashCode", "toString", "double", "float", "volatile", "native", "System", "Thread"};
    private static final List<String> LIBRARY = List.of("Integer.bitCount", "Math.abs");
    private static final List<String> STATEMENTS = List.of("if", "for", "while", "switch");

    private static final List<String> faults = new ArrayList<>();

    private static void check(boolean holds, String fault) {
        if (!holds) {
            faults.add(fault);
        }
    }

    private static String told(Method m) {
        StringBuilder b = new StringBuilder(m.getReturnType().getSimpleName() + " " + m.getName() + "(");
        for (Class<?> p : m.getParameterTypes()) {
            b.append(b.charAt(b.length() - 1) == '(' ? "" : ", ").append(p.getSimpleName());
        }
        return b.append(")").toString();
    }

    private static boolean isPrivate(Member m) {
        return Modifier.isPrivate(m.getModifiers()) || m.isSynthetic();
    }

    private static void methods() {
        Set<String> shown = new TreeSet<>();
        Set<String> publicNames = new HashSet<>();
        for (Method m : CompassBias.class.getDeclaredMethods()) {
            if (Modifier.isPublic(m.getModifiers())) {
                shown.add(told(m));
                publicNames.add(m.getName());
                check(!Modifier.isStatic(m.getModifiers()), "static: " + told(m));
            } else {
                check(isPrivate(m), "neither public nor private: " + told(m));
            }
        }
        check(shown.equals(new TreeSet<>(Arrays.asList(FACE))), "the public methods are " + shown);
        for (Method m : CompassBias.class.getDeclaredMethods()) {
            boolean bears = isPrivate(m) && publicNames.contains(m.getName());
            check(!bears, "a private method bears a public name: " + m.getName());
        }
    }

    private static void fields() {
        Set<String> shown = new TreeSet<>();
        for (Field f : CompassBias.class.getDeclaredFields()) {
            int is = f.getModifiers();
            check(!Modifier.isStatic(is) || Modifier.isFinal(is), "static and not final: " + f.getName());
            if (Modifier.isPublic(is)) {
                shown.add(f.getName());
                check(Modifier.isStatic(is), "public and not static: " + f.getName());
                Class<?> due = f.getName().equals("BELOW") ? long.class : int.class;
                check(f.getType() == due, "the type of " + f.getName());
            } else {
                check(isPrivate(f), "neither public nor private: " + f.getName());
            }
        }
        check(shown.equals(new TreeSet<>(Arrays.asList(CONSTANTS))), "the public fields are " + shown);
    }

    private static void classes() {
        int is = CompassBias.class.getModifiers();
        check(Modifier.isPublic(is) && Modifier.isFinal(is), "the class is not public and final");
        Constructor<?>[] made = CompassBias.class.getDeclaredConstructors();
        boolean one = made.length == 1 && made[0].getParameterCount() == 0 && Modifier.isPublic(made[0].getModifiers());
        check(one, "the constructors");
        for (Class<?> inside : CompassBias.class.getDeclaredClasses()) {
            int mods = inside.getModifiers();
            boolean hidden = !Modifier.isPublic(mods) && !Modifier.isProtected(mods);
            check(hidden && Modifier.isStatic(mods), "the class inside: " + inside.getName());
        }
    }

    /** Rules 5 and 11: what is static, how many parameters, fields and classes there are. */
    private static void bounds() {
        List<Class<?>> all = new ArrayList<>(Arrays.asList(CompassBias.class.getDeclaredClasses()));
        check(all.size() <= 12, "too many classes inside");
        all.add(CompassBias.class);
        for (Class<?> one : all) {
            int own = 0;
            for (Field f : one.getDeclaredFields()) {
                boolean isConstant = Modifier.isStatic(f.getModifiers());
                own += isConstant ? 0 : 1;
                boolean isPlain = f.getType() == int.class || f.getType() == long.class;
                check(!isConstant || isPlain && Modifier.isFinal(f.getModifiers()), "static: " + f.getName());
            }
            check(own <= 20, "too many fields in " + one.getName());
            for (Method m : one.getDeclaredMethods()) {
                check(m.getParameterCount() <= 7, "too many parameters: " + m.getName());
            }
        }
    }

    /** Rule 12: what is made is put into a final field, so it is made in a constructor: no call makes objects. */
    private static void making(String code) {
        for (String line : code.split("\n")) {
            if (line.matches(".*\\bnew\\b.*")) {
                boolean isPutInField = line.matches(" +\\w+ = new \\w+(\\(\\)|\\[MOST_SAMPLES\\]);");
                String field = line.trim().replaceAll("\\W.*", "");
                check(isPutInField && isFinalField(field), "makes an object: " + line);
            }
        }
    }

    private static boolean isFinalField(String name) {
        List<Class<?>> all = new ArrayList<>(Arrays.asList(CompassBias.class.getDeclaredClasses()));
        all.add(CompassBias.class);
        for (Class<?> one : all) {
            for (Field f : one.getDeclaredFields()) {
                if (f.getName().equals(name) && Modifier.isFinal(f.getModifiers())) {
                    return true;
                }
            }
        }
        return false;
    }

    /** Rule 11: methods of some sixty lines at most; each ends at the brace that stands below its beginning. */
    private static void lengths(String text) {
        String[] lines = text.split("\n");
        for (int i = 0; i < lines.length; i++) {
            String indent = lines[i].replaceAll("\\S.*", "");
            boolean begins = lines[i].matches(" +(public|private|static|void|int|long|boolean)[^=;]*\\) \\{");
            int length = 1;
            while (begins && i + length < lines.length && !lines[i + length].equals(indent + "}")) {
                length++;
            }
            check(length < 60, "a long method: " + lines[i]);
        }
    }

    /** Rule 4: of the library only these; any other that LANGUAGE.md lists can be put beside them when it is used. */
    private static void library(String code) {
        Matcher use = Pattern.compile("\\b([A-Z]\\w*[a-z]\\w*\\.\\w+)").matcher(code);
        while (use.find()) {
            check(LIBRARY.contains(use.group(1)), "the text uses " + use.group(1));
        }
    }

    /** Rule 9: every loop counts up to a bound in its own line. */
    private static void loops(String code) {
        for (String line : code.split("\n")) {
            if (line.matches(".*\\b(for|while|do)\\b.*")) {
                boolean counts = line.matches(" +for \\(int (\\w+) = -?\\w+; \\1 <=? \\w+( && [^;]*)?; \\1\\+\\+\\) \\{");
                check(counts, "a loop without a counter and a bound: " + line);
            }
        }
    }

    /** Rules 8 and 11: no recursion, and calls at most eight deep. Methods of one name count as one. */
    private static void depths(String code) {
        Map<String, Set<String>> calls = new HashMap<>();
        Pattern begin = Pattern.compile("^ +(?:[\\w\\[\\]]+ )*(\\w+)\\([^;=]*\\) \\{$");
        Pattern call = Pattern.compile("(\\w+)\\(");
        String method = "";
        for (String line : code.split("\n")) {
            Matcher begins = begin.matcher(line);
            if (begins.find() && !STATEMENTS.contains(begins.group(1))) {
                method = begins.group(1);
                calls.putIfAbsent(method, new HashSet<>());
                continue;
            }
            Matcher called = call.matcher(line);
            while (called.find() && !method.isEmpty()) {
                calls.get(method).add(called.group(1));
            }
        }
        check(calls.keySet().containsAll(Arrays.asList("helps", "eighthTowards", "become")), "the methods are not found");
        for (String each : calls.keySet()) {
            check(depthOf(each, calls, 0) <= 8, "calls that go too deep, or a recursion, from " + each);
        }
    }

    private static int depthOf(String method, Map<String, Set<String>> calls, int above) {
        int deepest = 0;
        if (above <= 8) {
            for (String called : calls.getOrDefault(method, Set.of())) {
                deepest = Math.max(deepest, calls.containsKey(called) ? depthOf(called, calls, above + 1) : 0);
            }
        }
        return deepest + 1;
    }

    private static void text() throws IOException {
        String text = Files.readString(Path.of("src/main/java/CompassBias.java"));
        String code = text.replaceAll("(?s)/\\*.*?\\*/", " ").replaceAll("//[^\n]*", " ");
        List<String> words = Arrays.asList(code.split("[^A-Za-z0-9_]+"));
        for (String word : RULED_OUT) {
            check(!words.contains(word), "the text has the word " + word);
        }
        check(!code.contains("->") && !code.contains("::"), "the text has a lambda or a method reference");
        check(!code.contains("Exact("), "the text has a function whose name ends in Exact");
        library(code);
        loops(code);
        depths(code);
        making(code);
        lengths(text);
        check(text.chars().allMatch(sign -> sign == '\n' || sign >= 32 && sign < 127), "the text has another sign");
    }

    public static void main(String[] args) throws IOException {
        methods();
        fields();
        classes();
        bounds();
        text();
        for (String fault : faults) {
            System.out.println(fault);
        }
        System.out.println("the face: " + faults.size() + " faults");
        if (!faults.isEmpty()) {
            System.exit(1);
        }
    }
}

import java.io.IOException;
import java.lang.reflect.Constructor;
import java.lang.reflect.Field;
import java.lang.reflect.Member;
import java.lang.reflect.Method;
import java.lang.reflect.Modifier;
import java.nio.file.Files;
import java.nio.file.Path;
import java.util.ArrayList;
import java.util.Arrays;
import java.util.HashSet;
import java.util.List;
import java.util.Set;
import java.util.TreeSet;

/** The class shows the document's face and nothing else, and its text has none of the words that LANGUAGE.md rules out. */
public final class FaceTest {
    private static final String[] FACE = {"int add(int, int)", "int clear()", "int take(int, int)", "int of(int, int)",
        "long round(int, int)", "long middle(int, int)", "long off(int, int)", "int worst(int)", "int need(int)",
        "int cover()", "int poor()", "int eighth(int)", "int points(int, int)", "int helps()", "int trim(int)",
        "int fewest(int, int)", "int image(int)", "int restore(int)", "int count(int)"};
    private static final String[] CONSTANTS = {"UNKNOWN", "OUTSIDE", "STATE", "FULL", "NO", "NONE", "BELOW"};
    private static final String[] RULED_OUT = {"throw", "throws", "try", "catch", "finally", "synchronized", "assert",
        "import", "package", "hashCode", "toString", "double", "float", "volatile", "native", "System", "Thread"};

    private static final List<String> faults = new ArrayList<>();

    private static void check(boolean holds, String fault) {
        if (!holds) {
            faults.add(fault);
        }
    }

    private static String told(Method m) {
        StringBuilder b = new StringBuilder(m.getReturnType().getSimpleName() + " " + m.getName() + "(");
        for (Class<?> p : m.getParameterTypes()) {
            b.append(b.charAt(b.length() - 1) == '(' ? "" : ", ").append(p.getSimpleName());
        }
        return b.append(")").toString();
    }

    private static boolean isPrivate(Member m) {
        return Modifier.isPrivate(m.getModifiers()) || m.isSynthetic();
    }

    private static void methods() {
        Set<String> shown = new TreeSet<>();
        Set<String> publicNames = new HashSet<>();
        for (Method m : CompassBias.class.getDeclaredMethods()) {
            if (Modifier.isPublic(m.getModifiers())) {
                shown.add(told(m));
                publicNames.add(m.getName());
                check(!Modifier.isStatic(m.getModifiers()), "static: " + told(m));
            } else {
                check(isPrivate(m), "neither public nor private: " + told(m));
            }
        }
        check(shown.equals(new TreeSet<>(Arrays.asList(FACE))), "the public methods are " + shown);
        for (Method m : CompassBias.class.getDeclaredMethods()) {
            boolean bears = isPrivate(m) && publicNames.contains(m.getName());
            check(!bears, "a private method bears a public name: " + m.getName());
        }
    }

    private static void fields() {
        Set<String> shown = new TreeSet<>();
        for (Field f : CompassBias.class.getDeclaredFields()) {
            int is = f.getModifiers();
            check(!Modifier.isStatic(is) || Modifier.isFinal(is), "static and not final: " + f.getName());
            if (Modifier.isPublic(is)) {
                shown.add(f.getName());
                check(Modifier.isStatic(is), "public and not static: " + f.getName());
                Class<?> due = f.getName().equals("BELOW") ? long.class : int.class;
                check(f.getType() == due, "the type of " + f.getName());
            } else {
                check(isPrivate(f), "neither public nor private: " + f.getName());
            }
        }
        check(shown.equals(new TreeSet<>(Arrays.asList(CONSTANTS))), "the public fields are " + shown);
    }

    private static void classes() {
        int is = CompassBias.class.getModifiers();
        check(Modifier.isPublic(is) && Modifier.isFinal(is), "the class is not public and final");
        Constructor<?>[] made = CompassBias.class.getDeclaredConstructors();
        boolean one = made.length == 1 && made[0].getParameterCount() == 0 && Modifier.isPublic(made[0].getModifiers());
        check(one, "the constructors");
        for (Class<?> inside : CompassBias.class.getDeclaredClasses()) {
            int mods = inside.getModifiers();
            boolean hidden = !Modifier.isPublic(mods) && !Modifier.isProtected(mods);
            check(hidden && Modifier.isStatic(mods), "the class inside: " + inside.getName());
        }
    }

    private static void text() throws IOException {
        String text = Files.readString(Path.of("src/main/java/CompassBias.java"));
        String code = text.replaceAll("(?s)/\\*.*?\\*/", " ").replaceAll("//[^\n]*", " ");
        List<String> words = Arrays.asList(code.split("[^A-Za-z0-9_]+"));
        for (String word : RULED_OUT) {
            check(!words.contains(word), "the text has the word " + word);
        }
        check(!code.contains("->") && !code.contains("::"), "the text has a lambda or a method reference");
        check(!code.contains("Exact("), "the text has a function whose name ends in Exact");
        check(text.chars().allMatch(sign -> sign == '\n' || sign >= 32 && sign < 127), "the text has another sign");
    }

    public static void main(String[] args) throws IOException {
        methods();
        fields();
        classes();
        text();
        for (String fault : faults) {
            System.out.println(fault);
        }
        System.out.println("the face: " + faults.size() + " faults");
        if (!faults.isEmpty()) {
            System.exit(1);
        }
    }
}

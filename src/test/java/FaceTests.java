import java.lang.reflect.Constructor;
import java.lang.reflect.Field;
import java.lang.reflect.Method;
import java.lang.reflect.Modifier;
import java.nio.file.Files;
import java.nio.file.Path;
import java.util.Arrays;
import java.util.HashMap;
import java.util.HashSet;
import java.util.Map;
import java.util.Set;
import java.util.TreeSet;
import java.util.regex.Matcher;
import java.util.regex.Pattern;

/** The public face is the document's, no more; and what ../shared/LANGUAGE.md rules out does not stand in the source (its path is the argument). */
public final class FaceTests {
    private static final String[] FACE = {
        "int count(int)", "int fill(int, int, int)", "int hat(int, int)", "int feed(int, int, int, int, int, int)", "int text()",
        "int force(int)", "int asks(int, int, int)", "int person(int, int)", "int put(int, int, int)", "int told(int, int)",
        "int coin(int, int, int)", "int pass()", "int hand(int)", "int run(int, int)", "int end(int)", "int first(int, int)",
        "int vicar(int, int)", "int seating(int)", "int ways(int)", "long share(int, int)", "int judge(int)",
        "int kinds(int, int, int)", "int prides(int, int, int)", "int hats(int, int, int)", "int starts(int)", "int laws(int)",
        "int film(int, int)", "int drawn(int, int, int)", "long odds(int, int, int, int)", "int image()", "int back()",
        "int sheet(int, int, int)", "int cell(int, int, int)", "int copy(int, int, int, int, int)", "int pewBy(int, int, int, int)",
        "int taken(int, int)",
    };
    private static final String[] RULED_OUT = {
        "\\b(throw|try|catch|synchronized|assert|import|package|protected|float|double)\\b", "->", "::",
        "\\b(equals|hashCode|toString|\\w*Exact|Random|Thread)\\b", "\\bSystem\\.(?!arraycopy)",
    };
    private static final int MOST_DEEP = 8;
    private static int wrong = 0;

    private static void must(boolean so, String what) {
        if (!so) {
            wrong++;
            System.out.println("not so: " + what);
        }
    }

    private static void face() {
        Set<String> methods = new TreeSet<>();
        Set<String> names = new TreeSet<>();
        for (Method m : HatGoesRound.class.getDeclaredMethods()) {
            if (Modifier.isPrivate(m.getModifiers())) {
                continue;
            }
            must(Modifier.isPublic(m.getModifiers()) && !Modifier.isStatic(m.getModifiers()), m + " is public, of an object");
            names.add(m.getName());
            StringBuilder b = new StringBuilder(m.getReturnType() + " " + m.getName() + "(");
            for (Class<?> type : m.getParameterTypes()) {
                b.append(b.charAt(b.length() - 1) == '(' ? "" : ", ").append(type);
            }
            methods.add(b + ")");
        }
        must(methods.equals(new TreeSet<>(Arrays.asList(FACE))), "the methods are the document's: " + methods);
        Set<String> constants = new TreeSet<>();
        for (Field f : HatGoesRound.class.getDeclaredFields()) {
            if (!Modifier.isPrivate(f.getModifiers())) {
                constants.add(Modifier.toString(f.getModifiers()) + " " + f.getType() + " " + f.getName());
            }
        }
        must(constants.equals(Set.of("public static final int NONE", "public static final int BAD", "public static final int STATE",
            "public static final int FULL", "public static final long NO")), "the constants are the document's: " + constants);
        Constructor<?>[] constructors = HatGoesRound.class.getDeclaredConstructors();
        must(constructors.length == 1 && constructors[0].getParameterCount() == 0 && Modifier.isPublic(constructors[0].getModifiers()),
            "one public constructor");
        must(Modifier.isFinal(HatGoesRound.class.getModifiers()), "the class is final");
        inside(names);
    }

    private static void inside(Set<String> names) {
        must(HatGoesRound.class.getDeclaredClasses().length <= 12, "at most twelve classes");
        for (Class<?> c : HatGoesRound.class.getDeclaredClasses()) {
            must(Modifier.isStatic(c.getModifiers()), c + " is static");
            must(!Modifier.isPublic(c.getModifiers()), c + " is not public");
            for (Method m : c.getDeclaredMethods()) {
                must(!names.contains(m.getName()), m + " does not bear the name of a public method");
                must(m.getParameterCount() <= 7, m + " takes at most seven");
            }
            for (Field f : c.getDeclaredFields()) {
                must(!Modifier.isStatic(f.getModifiers()) || Modifier.isFinal(f.getModifiers()), f + " is final, if static");
            }
        }
        for (Method m : HatGoesRound.class.getDeclaredMethods()) {
            must(!Modifier.isPrivate(m.getModifiers()) || !names.contains(m.getName()), m + " does not bear the name of a public method");
        }
    }

    private static void source(String path) throws java.io.IOException {
        String text = Files.readString(Path.of(path));
        must(text.chars().allMatch(c -> c < 128), "the source is ASCII");
        String code = text.replaceAll("(?s)/\\*.*?\\*/", "").replaceAll("//[^\n]*", "").replaceAll("\"[^\"\n]*\"", "\"\"");
        for (String out : RULED_OUT) {
            Matcher m = Pattern.compile(out).matcher(code);
            must(!m.find(), "nothing like " + out + " in the source");
        }
        Map<String, String> bodies = bodies(code);
        Set<String> found = new TreeSet<>(bodies.keySet());
        must(found.equals(names()), "the methods are found in the source: " + found);
        for (Map.Entry<String, String> method : bodies.entrySet()) {
            must(method.getValue().split("\n").length <= 60, "a method stays short: " + method.getKey());
        }
        calls(bodies);
    }

    /** The names of all methods and constructors of the class and of those inside it. */
    private static Set<String> names() {
        Set<String> names = new TreeSet<>(Set.of(HatGoesRound.class.getSimpleName()));
        for (Method m : HatGoesRound.class.getDeclaredMethods()) {
            names.add(m.getName());
        }
        for (Class<?> c : HatGoesRound.class.getDeclaredClasses()) {
            names.add(c.getSimpleName());
            for (Method m : c.getDeclaredMethods()) {
                names.add(m.getName());
            }
        }
        return names;
    }

    /** Each method and constructor by its name (those of one name together), from its first line to its last. */
    private static Map<String, String> bodies(String code) {
        Map<String, String> bodies = new HashMap<>();
        Matcher m = Pattern.compile("(?ms)^( {4}| {8})([a-z][^\n;=]* |)(\\w+)\\([^\n;]*\\) \\{\n.*?^\\1\\}\n").matcher(code);
        while (m.find()) {
            bodies.merge(m.group(3), m.group(), String::concat);
        }
        return bodies;
    }

    private static void calls(Map<String, String> bodies) {
        Map<String, Set<String>> calls = new HashMap<>();
        for (Map.Entry<String, String> method : bodies.entrySet()) {
            Set<String> called = new HashSet<>();
            Matcher m = Pattern.compile("\\b(\\w+)\\(").matcher(method.getValue().replaceAll("(?m)^( {4}| {8})\\w.*\\{$", ""));
            while (m.find()) {
                if (bodies.containsKey(m.group(1))) {
                    called.add(m.group(1));
                }
            }
            if (called.remove(method.getKey())) {
                must(method.getValue().trim().startsWith("private static "), "what calls itself is private and static: " + method.getKey());
            }
            calls.put(method.getKey(), called);
        }
        for (String method : bodies.keySet()) {
            must(depth(method, calls, 1) <= MOST_DEEP, "calls go eight deep at most: from " + method);
        }
    }

    /** How many calls stand open at most, from the method that is called with so many open, it too. */
    private static int depth(String method, Map<String, Set<String>> calls, int open) {
        int most = open;
        for (String called : calls.get(method)) {
            if (open <= MOST_DEEP) {
                most = Math.max(most, depth(called, calls, open + 1));
            }
        }
        return most;
    }

    public static void main(String[] args) throws java.io.IOException {
        face();
        source(args.length > 0 ? args[0] : "src/main/java/HatGoesRound.java");
        System.out.println(wrong == 0 ? "FaceTests: the face and the language are as due" : "FaceTests: " + wrong + " not so");
        if (wrong != 0) {
            System.exit(1);
        }
    }
}

import java.lang.reflect.Constructor;
import java.lang.reflect.Field;
import java.lang.reflect.Member;
import java.lang.reflect.Method;
import java.lang.reflect.Modifier;
import java.nio.file.Files;
import java.nio.file.Path;
import java.util.Arrays;
import java.util.Set;
import java.util.TreeSet;

/** The public face to the letter, and those rules of LANGUAGE.md that a test can see. */
public final class FaceTest {
    private static final String[] FACE = {
        "final int NONE", "final int UNKNOWN", "final int OUTSIDE", "final int NOT", "final int FULL",
        "BoredPipes()", "int piece(int, int)", "int cone(int, int, int, int)", "int hole(int, int, int)",
        "int set(int, int, int)", "int end(int, int)", "int clear()", "int told(int, int)", "int bored(int, int)",
        "int count(int)", "int sine(int)", "long worth(int, int)", "int tone(int, int)", "int nearest(int, int)",
        "int note(int, int, int)", "int noted(int, int)", "int drill(int, boolean)", "int reach(int)", "int round()",
        "int keep(int)", "int back(int)", "int differs(int)"};

    private static int wrong = 0;

    private static void holds(boolean so, String what) {
        if (so) return;
        wrong++;
        System.out.println(what);
    }

    private static String types(Class<?>[] types) {
        StringBuilder all = new StringBuilder();
        for (Class<?> t : types) all.append(all.length() == 0 ? "" : ", ").append(t.getSimpleName());
        return "(" + all + ")";
    }

    private static boolean isOpen(Member m) {
        return !Modifier.isPrivate(m.getModifiers());
    }

    private static void face() {
        Set<String> open = new TreeSet<>();
        for (Field f : BoredPipes.class.getDeclaredFields()) {
            if (!isOpen(f)) continue;
            holds(Modifier.isPublic(f.getModifiers()) && Modifier.isStatic(f.getModifiers()), "a field like no constant: " + f);
            open.add((Modifier.isFinal(f.getModifiers()) ? "final " : "") + f.getType().getSimpleName() + " " + f.getName());
        }
        for (Constructor<?> c : BoredPipes.class.getDeclaredConstructors()) {
            if (isOpen(c)) open.add("BoredPipes" + types(c.getParameterTypes()));
        }
        Set<String> names = new TreeSet<>();
        for (Method m : BoredPipes.class.getDeclaredMethods()) {
            if (!isOpen(m)) continue;
            holds(Modifier.isPublic(m.getModifiers()) && !Modifier.isStatic(m.getModifiers()), "not of the face: " + m);
            open.add(m.getReturnType().getSimpleName() + " " + m.getName() + types(m.getParameterTypes()));
            names.add(m.getName());
        }
        holds(open.equals(new TreeSet<>(Arrays.asList(FACE))), "the face is " + open);
        int m = BoredPipes.class.getModifiers();
        holds(Modifier.isPublic(m) && Modifier.isFinal(m), "the class is not public and final");
        holds(BoredPipes.NONE == -1 && BoredPipes.UNKNOWN == -1001 && BoredPipes.OUTSIDE == -1002
            && BoredPipes.NOT == -1003 && BoredPipes.FULL == -1004, "a constant is not as due");
        inside(BoredPipes.class, names);
        for (Class<?> c : BoredPipes.class.getDeclaredClasses()) {
            holds(Modifier.isStatic(c.getModifiers()) && !Modifier.isPublic(c.getModifiers())
                && !Modifier.isProtected(c.getModifiers()), "not static, or open: " + c);
            inside(c, names);
        }
        holds(BoredPipes.class.getDeclaredClasses().length <= 11, "too many classes");
    }

    private static void inside(Class<?> c, Set<String> names) {
        int held = 0;
        for (Field f : c.getDeclaredFields()) {
            boolean still = Modifier.isStatic(f.getModifiers());
            if (!still) held++;
            holds(!still || Modifier.isFinal(f.getModifiers()), "static and not final: " + f);
            Class<?> t = f.getType();
            holds(t.isPrimitive() || t == int[].class || t.getEnclosingClass() == BoredPipes.class, "a type not kept to: " + f);
        }
        holds(held <= 20, "too many fields: " + c);
        for (Method m : c.getDeclaredMethods()) {
            holds(m.getParameterCount() <= 7, "too many parameters: " + m);
            boolean asPublic = names.contains(m.getName()) && (isOpen(m) && c == BoredPipes.class);
            holds(asPublic || !names.contains(m.getName()), "bears the name of a public method: " + m);
            holds(!m.isSynthetic(), "a lambda or the like: " + m);
        }
    }

    private static void source() throws Exception {
        String text = Files.readString(Path.of("src/main/java/BoredPipes.java"));
        for (char c : text.toCharArray()) holds(c == '\n' || c >= 32 && c < 127, "a sign that is not plain: " + (int) c);
        String code = text.replaceAll("(?s)/\\*.*?\\*/", " ").replaceAll("//[^\n]*", " ");
        String[] banned = {"throw", "throws", "try", "catch", "finally", "synchronized", "assert", "import", "package",
            "double", "float", "System", "Thread", "Random", "Object", "volatile", "native", "var", "Integer", "String"};
        for (String w : banned) {
            holds(!java.util.regex.Pattern.compile("\\b" + w + "\\b").matcher(code).find(), "the source says " + w);
        }
        holds(!code.contains("->") && !code.contains("::") && !code.contains("\"") && !code.contains("Exact("),
            "the source has a lambda, a method reference, a text or an exact sum");
        String library = "Long.bitCount Math.abs Math.max Math.min";
        java.util.regex.Matcher used = java.util.regex.Pattern.compile("\\b(Math|Long)\\.\\w+").matcher(code);
        while (used.find()) holds(library.contains(used.group()), "not of the library: " + used.group());
        int arrays = code.split("new int\\[", -1).length - 1;
        int rows = code.split("final int\\[\\] \\w+ = new int\\[MOST", -1).length - 1;
        holds(arrays == rows, "an array is made elsewhere than in a field of its object");
    }

    public static void main(String[] args) throws Exception {
        face();
        source();
        System.out.println(wrong == 0 ? "the face and the rules hold" : wrong + " do not hold");
        if (wrong != 0) System.exit(1);
    }
}

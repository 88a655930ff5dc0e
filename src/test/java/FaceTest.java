import java.lang.reflect.Constructor;
import java.lang.reflect.Field;
import java.lang.reflect.Method;
import java.lang.reflect.Modifier;
import java.nio.charset.StandardCharsets;
import java.nio.file.Files;
import java.nio.file.Path;
import java.util.Arrays;
import java.util.HashSet;
import java.util.Set;
import java.util.TreeSet;
import java.util.regex.Pattern;

/** The public face of the document, and those rules of LANGUAGE.md that a look can check. */
final class FaceTest {
    private static final Check check = new Check("FaceTest");

    private static final String[] FACE = {
        "int feed(int)", "int law()", "int valley(int,int)", "int wall(int,boolean)",
        "int person(int,int,int,int)", "int of(int,int)", "int owe(int,int,int)", "int row(int,int,int)",
        "int now()", "int day()", "int on(int,int,int)", "int meet(int,int)", "int free(int)", "int spot()",
        "int again(int)", "int whom(int,int,int)", "int order(int,int)", "int late(int,int)",
        "int sit(int,int,int)", "int track(int)", "int owed(int)", "long odds(int,int,int,int)",
        "long mean(int,int)", "int book(int,int,int)", "int looked()", "int act(int,int,int)", "int trace(int)",
        "int as(int,int)", "int image()", "int undo()", "int count(int)"};

    public static void main(String[] args) throws Exception {
        constants();
        methods();
        classes();
        source(Files.readString(Path.of("src/main/java/StepOwed.java"), StandardCharsets.ISO_8859_1));
        check.end();
    }

    private static void constants() throws Exception {
        check.due("NONE", StepOwed.NONE, -1);
        check.due("BAD", StepOwed.BAD, -2);
        check.due("STATE", StepOwed.STATE, -3);
        check.due("FULL", StepOwed.FULL, -4);
        check.due("NO", StepOwed.NO, Long.MIN_VALUE);
        Set<String> open = new TreeSet<>();
        for (Field f : StepOwed.class.getDeclaredFields()) {
            boolean hidden = Modifier.isPrivate(f.getModifiers());
            if (!hidden) open.add(f.getType() + " " + f.getName());
            if (!hidden) check.due(f.getName() + " is public static final", f.getModifiers(), 25);
        }
        check.due("the constants: " + open, open.equals(new TreeSet<>(Arrays.asList(
            "int NONE", "int BAD", "int STATE", "int FULL", "long NO"))));
    }

    private static void methods() {
        check.due("public and final", StepOwed.class.getModifiers(), Modifier.PUBLIC | Modifier.FINAL);
        Constructor<?>[] made = StepOwed.class.getDeclaredConstructors();
        check.due("one constructor", made.length, 1);
        check.due("without arguments", made[0].getParameterCount(), 0);
        check.due("public", made[0].getModifiers(), Modifier.PUBLIC);
        Set<String> open = new TreeSet<>();
        Set<String> names = new HashSet<>();
        for (Method m : StepOwed.class.getDeclaredMethods()) {
            if (Modifier.isPrivate(m.getModifiers())) continue;
            StringBuilder t = new StringBuilder(m.getReturnType() + " " + m.getName() + "(");
            for (int k = 0; k < m.getParameterCount(); k++) t.append(k > 0 ? "," : "").append(m.getParameterTypes()[k]);
            open.add(t.append(")").toString());
            names.add(m.getName());
            check.due(m.getName() + " is public and no more", m.getModifiers(), Modifier.PUBLIC);
        }
        check.due("the face: " + open, open.equals(new TreeSet<>(Arrays.asList(FACE))));
        for (Method m : StepOwed.class.getDeclaredMethods()) {
            if (Modifier.isPrivate(m.getModifiers())) {
                check.due("no public name: " + m.getName(), !names.contains(m.getName()));
            }
        }
    }

    private static void classes() {
        Class<?>[] inside = StepOwed.class.getDeclaredClasses();
        check.due("some twelve classes", inside.length <= 12);
        for (Class<?> c : inside) {
            check.due(c + " is static", Modifier.isStatic(c.getModifiers()));
            check.due(c + " is not public", !Modifier.isPublic(c.getModifiers()) && !Modifier.isProtected(c.getModifiers()));
            check.due(c + " holds no class", c.getDeclaredClasses().length == 0);
            fields(c);
        }
        fields(StepOwed.class);
    }

    private static void fields(Class<?> c) {
        int own = 0;
        for (Field f : c.getDeclaredFields()) {
            if (!Modifier.isStatic(f.getModifiers())) own++;
            else check.due(f + " is final", Modifier.isFinal(f.getModifiers()));
        }
        check.due(c + " has at most some twenty fields", own <= 20);
        for (Method m : c.getDeclaredMethods()) {
            check.due(m + " has at most seven parameters", m.getParameterCount() <= 7);
            check.due(m + " is none of Object's", !Set.of("equals", "hashCode", "toString").contains(m.getName()));
        }
    }

    private static void source(String text) {
        String code = text.replaceAll("(?s)/\\*.*?\\*/", "").replaceAll("//[^\n]*", "");
        String[] ruledOut = {
            "\\bthrow\\b", "\\bthrows\\b", "\\btry\\b", "\\bcatch\\b", "\\bfinally\\b", "\\bsynchronized\\b", "\\bassert\\b",
            "->", "::", "\\bimport\\b", "\\bpackage\\b", "\\w+Exact\\b", "\\bSystem\\.(?!arraycopy)", "\\bThread\\b",
            "\\bRandom\\b", "\\bvar\\b", "@", "\\bdouble\\b", "\\bfloat\\b", "\\bwhile\\b", "\\bstatic\\s*\\{", "\" *\\+", "\\+ *\""};
        for (String word : ruledOut) check.due("no " + word, !Pattern.compile(word).matcher(code).find());
        for (int k = 0; k < text.length(); k++) {
            if (text.charAt(k) >= 127 || text.charAt(k) < 10) check.due("a plain sign at " + k, text.charAt(k), ' ');
        }
        shortMethods(text.split("\n"));
    }

    private static void shortMethods(String[] lines) {
        int from = 0;
        for (int k = 0; k < lines.length; k++) {
            check.due("a line of at most 120 signs, " + (k + 1), lines[k].length() <= 120);
            boolean begins = lines[k].matches("( {4}| {8})\\S.*\\) \\{");
            if (begins) from = k;
            boolean ends = from > 0 && lines[k].matches("( {4}| {8})\\}");
            if (ends) check.due("at most sixty lines till " + (k + 1), k - from <= 60);
        }
    }
}

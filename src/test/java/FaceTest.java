import java.io.IOException;
import java.lang.reflect.Constructor;
import java.lang.reflect.Field;
import java.lang.reflect.Method;
import java.lang.reflect.Modifier;
import java.nio.charset.StandardCharsets;
import java.nio.file.Files;
import java.nio.file.Path;
import java.util.Arrays;
import java.util.Set;
import java.util.TreeSet;
import java.util.regex.Matcher;
import java.util.regex.Pattern;

/** The public face of the document, and the rules of LANGUAGE.md that can be read off the file. */
public final class FaceTest {
    private static final Check CHECK = new Check();
    private static final String[] FACE = {
        "int form(int x 6)", "int set(int x 7)", "int drop(int x 0)", "int told(int x 2)", "int value(int x 4)",
        "int taken(int x 2)", "int least(int x 1)", "int same(int x 2)", "int table(int x 2)", "int turns(int x 11)",
        "int count(int x 0)", "int prime(int x 1)", "int line(int x 3)", "int neighbour(int x 3)", "int kin(int x 1)",
        "int kind(int x 3)", "int among(int x 2)", "int ways(int x 3)", "long weight(int x 2)", "long mean(int x 3)"
    };

    public static void main(String[] args) throws IOException {
        constants();
        members();
        inside();
        source();
        CHECK.end();
    }

    private static void constants() {
        CHECK.due("NONE", -1, KinForms.NONE);
        CHECK.due("UNKNOWN", -100001, KinForms.UNKNOWN);
        CHECK.due("OUTSIDE", -100002, KinForms.OUTSIDE);
        CHECK.due("NOT", -100003, KinForms.NOT);
        CHECK.due("FULL", -100004, KinForms.FULL);
        CHECK.due("MANY", -100005, KinForms.MANY);
    }

    private static boolean isSeen(int modifiers) {
        return !Modifier.isPrivate(modifiers);
    }

    private static void members() {
        CHECK.holds("public and final", Modifier.isPublic(KinForms.class.getModifiers()) && Modifier.isFinal(KinForms.class.getModifiers()));
        Set<String> seen = new TreeSet<>();
        for (Method m : KinForms.class.getDeclaredMethods()) {
            if (isSeen(m.getModifiers()) && !m.isSynthetic()) {
                CHECK.holds("public: " + m.getName(), Modifier.isPublic(m.getModifiers()) && !Modifier.isStatic(m.getModifiers()));
                CHECK.holds("ints alone: " + m.getName(), Arrays.stream(m.getParameterTypes()).allMatch(t -> t == int.class));
                seen.add(m.getReturnType() + " " + m.getName() + "(int x " + m.getParameterCount() + ")");
            }
        }
        CHECK.holds("methods of the face: " + seen, seen.equals(new TreeSet<>(Arrays.asList(FACE))));
        Set<String> fields = new TreeSet<>();
        for (Field f : KinForms.class.getDeclaredFields()) {
            if (isSeen(f.getModifiers()) && !f.isSynthetic()) {
                fields.add(f.getName());
            }
            CHECK.holds("static is final: " + f.getName(), !Modifier.isStatic(f.getModifiers()) || Modifier.isFinal(f.getModifiers()));
        }
        CHECK.holds("constants: " + fields, fields.equals(Set.of("NONE", "UNKNOWN", "OUTSIDE", "NOT", "FULL", "MANY")));
        Constructor<?>[] made = KinForms.class.getDeclaredConstructors();
        CHECK.holds("one constructor", made.length == 1 && Modifier.isPublic(made[0].getModifiers()) && made[0].getParameterCount() == 0);
    }

    private static void inside() {
        Set<String> names = new TreeSet<>();
        for (String method : FACE) {
            names.add(method.substring(method.indexOf(' ') + 1, method.indexOf('(')));
        }
        Class<?>[] classes = KinForms.class.getDeclaredClasses();
        CHECK.holds("some twelve classes", classes.length < 12);
        for (Class<?> c : classes) {
            CHECK.holds("static: " + c, Modifier.isStatic(c.getModifiers()) && Modifier.isPrivate(c.getModifiers()));
            CHECK.holds("some twenty fields: " + c, c.getDeclaredFields().length <= 20);
            for (Method m : c.getDeclaredMethods()) {
                CHECK.holds("no public name inside: " + m, !names.contains(m.getName()));
                CHECK.holds("seven parameters: " + m, m.getParameterCount() <= 7);
            }
        }
        for (Method m : KinForms.class.getDeclaredMethods()) {
            boolean hidden = Modifier.isPrivate(m.getModifiers());
            CHECK.holds("no private bearer of a public name: " + m, !hidden || !names.contains(m.getName()));
            CHECK.holds("seven parameters: " + m, !hidden || m.getParameterCount() <= 7);
        }
    }

    private static void source() throws IOException {
        String text = Files.readString(Path.of("src/main/java/KinForms.java"), StandardCharsets.UTF_8);
        String code = text.replaceAll("(?s)/\\*.*?\\*/", "").replaceAll("//[^\n]*", "");
        Pattern ruledOut = Pattern.compile("\\b(throw|throws|try|catch|synchronized|assert|import|package|System\\.(?!arraycopy))\\b|->|::|@");
        Matcher m = ruledOut.matcher(code);
        while (m.find()) {
            CHECK.holds("the file is without " + m.group(), false);
        }
        CHECK.holds("characters 0 to 127", text.chars().allMatch(c -> c < 128));
    }
}

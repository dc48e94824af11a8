import java.io.IOException;
import java.lang.reflect.Constructor;
import java.lang.reflect.Field;
import java.lang.reflect.Method;
import java.lang.reflect.Modifier;
import java.nio.file.Files;
import java.nio.file.Path;
import java.util.Arrays;
import java.util.HashSet;
import java.util.List;
import java.util.Set;
import java.util.TreeSet;
import java.util.regex.Matcher;
import java.util.regex.Pattern;

/** The face of the class, and those rules of LANGUAGE.md that can be seen from outside; run in the project's folder. */
public final class RulesTest {
    private static final Due DUE = new Due("RulesTest");
    private static final Path SOURCE = Path.of("src/main/java/HotAtSeven.java");
    private static final String FACE = "sheet3 set3 copy5 drop1 feed2 book0 fault0 dish2 step2 gives2 dinner1 out1 judge3 least2 begins2 "
        + "seven1 earliest0 heat2 wanted3 dinners3 more1 mend2 slack2 bears3 mind2 image1 restore1 kind1 as2 ask2 trace1 count1 status0";

    public static void main(String[] args) throws IOException {
        face();
        inside(HotAtSeven.class, new HashSet<>());
        source();
        DUE.end();
    }

    private static void face() {
        Set<String> due = new TreeSet<>(List.of(FACE.split(" ")));
        Set<String> has = new TreeSet<>();
        Set<String> open = new HashSet<>();
        for (Method m : HotAtSeven.class.getDeclaredMethods()) {
            if (Modifier.isPublic(m.getModifiers())) {
                has.add(m.getName() + m.getParameterCount());
                open.add(m.getName());
                DUE.is(m.getName() + " answers an int", m.getReturnType() == int.class ? 1 : 0, 1);
                for (Class<?> p : m.getParameterTypes())
                    DUE.is(m.getName() + " takes ints", p == int.class || p == long.class && m.getName().equals("feed") ? 1 : 0, 1);
            }
        }
        DUE.is("the face: " + has, has.equals(due) ? 1 : 0, 1);
        for (Method m : HotAtSeven.class.getDeclaredMethods()) {
            if (Modifier.isPublic(m.getModifiers())) continue;
            DUE.is(m.getName() + " is private", Modifier.isPrivate(m.getModifiers()) ? 1 : 0, 1);
            DUE.is(m.getName() + " is no public name", open.contains(m.getName()) ? 1 : 0, 0);
        }
        for (Field f : HotAtSeven.class.getDeclaredFields()) {
            boolean constant = List.of("NONE", "BAD", "STATE", "FULL").contains(f.getName());
            DUE.is(f.getName() + " public", Modifier.isPublic(f.getModifiers()) ? 1 : 0, constant ? 1 : 0);
            DUE.is(f.getName() + " private", Modifier.isPrivate(f.getModifiers()) ? 1 : 0, constant ? 0 : 1);
        }
        Constructor<?>[] made = HotAtSeven.class.getDeclaredConstructors();
        DUE.is("one constructor", made.length, 1);
        DUE.is("public", Modifier.isPublic(made[0].getModifiers()) ? 1 : 0, 1);
        DUE.is("final", Modifier.isFinal(HotAtSeven.class.getModifiers()) ? 1 : 0, 1);
        DUE.is("classes", HotAtSeven.class.getDeclaredClasses().length <= 12 ? 1 : 0, 1);
        DUE.is("NONE", HotAtSeven.NONE, -1000000);
        DUE.is("BAD", HotAtSeven.BAD, -1000001);
        DUE.is("STATE", HotAtSeven.STATE, -1000002);
        DUE.is("FULL", HotAtSeven.FULL, -1000003);
    }

    private static void inside(Class<?> c, Set<Class<?>> seen) {
        if (!seen.add(c)) return;
        if (c != HotAtSeven.class) {
            DUE.is(c + " static", Modifier.isStatic(c.getModifiers()) ? 1 : 0, 1);
            DUE.is(c + " not public", c.getModifiers() & (Modifier.PUBLIC | Modifier.PROTECTED), 0);
        }
        int fields = 0;
        for (Field f : c.getDeclaredFields()) {
            if (!Modifier.isStatic(f.getModifiers())) fields++;
            else DUE.is(f + " final", Modifier.isFinal(f.getModifiers()) ? 1 : 0, 1);
        }
        DUE.is(c + " fields", fields <= 21 ? 1 : 0, 1);
        for (Method m : c.getDeclaredMethods()) DUE.is(m + " parameters", m.getParameterCount() <= 7 ? 1 : 0, 1);
        for (Class<?> d : c.getDeclaredClasses()) inside(d, seen);
    }

    private static void source() throws IOException {
        String text = Files.readString(SOURCE);
        for (int i = 0; i < text.length(); i++) if (text.charAt(i) > 126) DUE.is("sign " + (int) text.charAt(i), 1, 0);
        String bare = text.replaceAll("(?s)/\\*.*?\\*/", "").replaceAll("//[^\n]*", "").replaceAll("\"[^\"]*\"", "\"\"");
        String[] barred = {"throw", "throws", "try", "catch", "finally", "synchronized", "assert", "yield", "var", "package", "native",
            "volatile", "transient", "Object", "Exception", "System\\.(?!arraycopy)", "Math\\.\\w*Exact", "->", "::", "hashCode", "toString"};
        for (String b : barred) {
            Pattern p = Pattern.compile(Character.isLetter(b.charAt(0)) ? "\\b" + b : b);
            Matcher m = p.matcher(bare);
            while (m.find()) {
                int end = m.end();
                boolean word = b.contains("(") || b.contains("\\") || end >= bare.length() || !Character.isLetterOrDigit(bare.charAt(end));
                if (word) DUE.is("barred: " + b, 1, 0);
            }
        }
        List<String> imports = Arrays.stream(bare.split("\n")).filter(l -> l.startsWith("import")).toList();
        DUE.is("imports " + imports, imports.equals(List.of("import java.util.Arrays;")) ? 1 : 0, 1);
        DUE.is("no texts joined by +", Pattern.compile("\"\"\\s*\\+|\\+\\s*\"\"").matcher(bare).find() ? 1 : 0, 0);
        methodsAreShort(bare);
    }

    private static void methodsAreShort(String bare) {
        String[] lines = bare.split("\n");
        int from = -1;
        String indent = "";
        for (int i = 0; i < lines.length; i++) {
            Matcher m = Pattern.compile("^( {4}| {8})\\S.*\\) \\{$").matcher(lines[i]);
            if (from < 0 && m.find() && !lines[i].contains(" class ")) {
                from = i;
                indent = m.group(1);
            } else if (from >= 0 && lines[i].equals(indent + "}")) {
                DUE.is("short: " + lines[from].trim(), i - from < 60 ? 1 : 0, 1);
                from = -1;
            }
        }
    }
}

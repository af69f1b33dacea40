import java.io.IOException;
import java.lang.reflect.Constructor;
import java.lang.reflect.Field;
import java.lang.reflect.Method;
import java.lang.reflect.Modifier;
import java.nio.file.Files;
import java.nio.file.Path;
import java.util.ArrayList;
import java.util.Arrays;
import java.util.HashSet;
import java.util.List;
import java.util.Set;
import java.util.TreeSet;
import java.util.regex.Pattern;

/** The public face of the document, and the rules of LANGUAGE.md that can be read off the class and the text of its source. */
public final class RulesTest {
    private static final String[] FACE = {
        "int canal(int, int, int, int)", "int ofSkater(int, int)", "int strength(int)", "int freeze(int, int)",
        "int frost(int)", "int deed(int, int, int, int, int, int, int, int)",
        "int write(int, int, int, int, int, int, int)", "int nights(int)", "int thaw(int)",
        "int bond(int, int, int, int, int)", "int holds(int, int, int, int)", "int alone(int, int)",
        "int neck(int, int, int, int)", "int reading(int, int, boolean)", "int back(int)", "int weights(int)",
        "int kinds(int)", "int strengths(int)", "long odds(int, int, int, int, int, int)",
        "int sheet(int, int, int)", "int lose(int)", "int put(int, int, int)", "long cell(int, int, int)",
        "int copy(int, int, int, int, int)", "int tell(int)", "int signed(int)", "int as(int, int)", "int trace()",
        "int fault()", "int many(int)",
    };

    private RulesTest() {
    }

    public static void main(String[] args) throws IOException {
        constants();
        face();
        classesInside();
        fields();
        source(Files.readString(Path.of("src/main/java/SkateBonds.java")));
        Due.end();
    }

    private static void constants() {
        Due.part("the constants");
        Due.is("UNKNOWN", SkateBonds.UNKNOWN, -1);
        Due.is("OUTSIDE", SkateBonds.OUTSIDE, -2);
        Due.is("STATE", SkateBonds.STATE, -3);
        Due.is("FULL", SkateBonds.FULL, -4);
        Due.is("NONE", SkateBonds.NONE, -9);
        Due.is("LOST", SkateBonds.LOST, Long.MIN_VALUE);
    }

    private static void face() {
        Due.part("rule 1");
        Class<?> c = SkateBonds.class;
        Due.holds("public and final", Modifier.isPublic(c.getModifiers()) && Modifier.isFinal(c.getModifiers()));
        Set<String> found = new TreeSet<>();
        Set<String> names = new HashSet<>();
        for (Method m : c.getDeclaredMethods()) {
            if (Modifier.isPrivate(m.getModifiers())) {
                continue;
            }
            Due.holds(m + " is public alone", m.getModifiers() == Modifier.PUBLIC);
            List<String> types = new ArrayList<>();
            for (Class<?> type : m.getParameterTypes()) {
                types.add(type.getName());
            }
            found.add(m.getReturnType().getName() + " " + m.getName() + "(" + String.join(", ", types) + ")");
            names.add(m.getName());
        }
        Set<String> wanted = new TreeSet<>(Arrays.asList(FACE));
        Due.holds("the methods of the face: " + found, found.equals(wanted));
        List<Class<?>> all = new ArrayList<>(Arrays.asList(c.getDeclaredClasses()));
        all.add(c);
        for (Class<?> one : all) {
            for (Method m : one.getDeclaredMethods()) {
                boolean isOther = one != c || Modifier.isPrivate(m.getModifiers());
                Due.holds(m + " bears no name of the face", !isOther || !names.contains(m.getName()));
                boolean isShort = m.getParameterCount() <= 7 || m.getName().equals("deed");
                Due.holds(m + " takes at most seven (rule 11)", isShort);
            }
        }
        Constructor<?>[] made = c.getDeclaredConstructors();
        Due.holds("one public constructor", made.length == 1 && made[0].toString().equals("public SkateBonds()"));
    }

    private static void classesInside() {
        Due.part("rules 2 and 11");
        Class<?>[] inside = SkateBonds.class.getDeclaredClasses();
        Due.holds("at most twelve classes", inside.length < 12);
        for (Class<?> one : inside) {
            int is = one.getModifiers();
            boolean isHidden = !Modifier.isPublic(is) && !Modifier.isProtected(is);
            Due.holds(one + " is static and hidden", isHidden && Modifier.isStatic(is));
            Due.holds(one + " has none inside", one.getDeclaredClasses().length == 0);
        }
    }

    private static void fields() {
        Due.part("rules 1, 5 and 11");
        List<Class<?>> all = new ArrayList<>(Arrays.asList(SkateBonds.class.getDeclaredClasses()));
        all.add(SkateBonds.class);
        Set<String> face = new HashSet<>(Arrays.asList("UNKNOWN", "OUTSIDE", "STATE", "FULL", "NONE", "LOST"));
        for (Class<?> one : all) {
            int own = 0;
            for (Field f : one.getDeclaredFields()) {
                int is = f.getModifiers();
                Due.holds(f + " is private or of the face", Modifier.isPrivate(is) || face.contains(f.getName()));
                Due.holds(f + " is final if it is static", !Modifier.isStatic(is) || Modifier.isFinal(is));
                own += Modifier.isStatic(is) ? 0 : 1;
            }
            Due.holds(one + " has at most twenty fields", own <= 20);
        }
    }

    private static void source(String whole) {
        Due.part("the source");
        String code = whole.replaceAll("(?s)/\\*.*?\\*/", "").replaceAll("//[^\n]*", "");
        String[] barred = {
            "\\bthrow\\b", "\\bthrows\\b", "\\btry\\b", "\\bcatch\\b", "\\bsynchronized\\b", "\\bassert\\b", "->", "::",
            "\\bpackage\\b", "\\bHash", "\\bStream\\b", "\\bScanner\\b", "\\bRandom\\b", "currentTimeMillis", "nanoTime",
            "Exact\\(", "\\bequals\\(", "\\bhashCode\\(", "\\btoString\\(", "\\bvar\\b", "\\bThread\\b", "\\bfinalize\\b",
            "import (?!java\\.util\\.(Arrays|ArrayList|List|Iterator);)", "java\\.(?!util\\.)", "static \\{",
            "\\bnative\\b", "\\bvolatile\\b", "[^\\x00-\\x7e]",
        };
        for (String words : barred) {
            Due.holds("no " + words, !Pattern.compile(words).matcher(code).find());
        }
        String[] lines = whole.split("\n");
        shortMethods(lines);
        for (int k = 0; k < lines.length; k++) {
            Due.holds("line " + (k + 1) + " is at most 120 long", lines[k].length() <= 120);
        }
    }

    /** Rule 11: methods of some sixty lines at most. */
    private static void shortMethods(String[] lines) {
        Pattern begins = Pattern.compile("( {4}| {8})(public|private) [^;=]*\\{");
        int methods = 0;
        for (int k = 0; k < lines.length; k++) {
            if (begins.matcher(lines[k]).matches() && !lines[k].contains(" class ")) {
                String end = lines[k].substring(0, lines[k].indexOf('p')) + "}";
                int last = k;
                while (last < lines.length && !lines[last].equals(end)) {
                    last++;
                }
                Due.holds("the method at line " + (k + 1) + " is short", last - k <= 60);
                methods++;
            }
        }
        Due.holds("methods are found", methods > 60);
    }
}

import java.io.IOException;
import java.nio.file.Files;
import java.nio.file.Path;
import java.util.ArrayList;
import java.util.HashSet;
import java.util.List;
import java.util.Set;
import java.util.regex.Matcher;
import java.util.regex.Pattern;

/** The program that README.md tells: each of its calls answers what stands behind it. */
public final class ReadmeTest {
    private static final Pattern MADE = Pattern.compile("SkateBonds x = new SkateBonds\\(\\);");
    private static final Pattern TEXT = Pattern.compile("String text = \"([^\"]*)\"; +// .*");
    private static final String PUTS = "for (int i = 0; i < text.length(); i++) x.put(0, i, text.charAt(i));";
    private static final Pattern CALL = Pattern.compile("x\\.(\\w+)\\((.*)\\); +// (-?\\d+|[A-Z]+)(:.*)?");

    private final Set<String> asked = new HashSet<>();
    private SkateBonds x = new SkateBonds();
    private String text = "";
    private int calls = 0;

    private ReadmeTest() {
    }

    public static void main(String[] args) throws IOException, ReflectiveOperationException {
        Due.part("README.md");
        ReadmeTest test = new ReadmeTest();
        for (String line : program(Files.readString(Path.of("README.md")))) {
            test.follow(line);
        }
        Due.holds("README.md has a program", test.calls > 40 && test.asked.size() > 20);
        Due.holds("its program is one of at most 512 calls", test.calls <= 512);
        Due.end();
    }

    private static List<String> program(String readme) {
        List<String> lines = new ArrayList<>();
        Matcher piece = Pattern.compile("(?s)```java\n(.*?)```").matcher(readme);
        while (piece.find()) {
            lines.addAll(piece.group(1).lines().toList());
        }
        return lines;
    }

    private void follow(String line) throws ReflectiveOperationException {
        Matcher toldText = TEXT.matcher(line);
        Matcher call = CALL.matcher(line);
        if (MADE.matcher(line).matches()) {
            x = new SkateBonds();
        } else if (toldText.matches()) {
            text = toldText.group(1);
        } else if (line.equals(PUTS)) {
            putText();
        } else if (call.matches()) {
            ask(line, call);
        } else {
            Due.holds("a line that this test reads: " + line, false);
        }
    }

    private void putText() {
        for (int i = 0; i < text.length(); i++) {
            x.put(0, i, text.charAt(i));
            calls++;
        }
    }

    private void ask(String line, Matcher call) throws ReflectiveOperationException {
        String name = call.group(1);
        long got = Calls.ask(x, name, with(call.group(2)));
        Due.is(line, got, due(call.group(3)));
        asked.add(name);
        calls++;
    }

    private Object[] with(String told) {
        List<Object> with = new ArrayList<>();
        for (String one : told.isEmpty() ? new String[0] : told.split(", ")) {
            if (one.equals("true") || one.equals("false")) {
                with.add(one.equals("true"));
            } else {
                with.add(one.equals("text.length()") ? text.length() : Integer.parseInt(one));
            }
        }
        return with.toArray();
    }

    /** A number, or a constant of the face. */
    private static long due(String told) throws ReflectiveOperationException {
        boolean isNumber = told.matches("-?\\d+");
        return isNumber ? Long.parseLong(told) : SkateBonds.class.getField(told).getLong(null);
    }
}

import java.io.IOException;
import java.lang.reflect.Method;
import java.lang.reflect.Modifier;
import java.nio.file.Files;
import java.nio.file.Path;
import java.util.List;
import java.util.Set;
import java.util.TreeSet;
import java.util.regex.Matcher;
import java.util.regex.Pattern;

/** The example of README.md: every call there is made in its order, and has the answer that is told behind it. */
public final class ReadmeTest {
    private static final String NEW_OBJECT = "TrunkLitters x = new TrunkLitters();";
    private static final Pattern CALL = Pattern.compile("x\\.(\\w+)\\(([^)]*)\\);\\s+// (\\S+)(?:  (.*))?");
    private static final int MOST_CALLS = 512;

    private static final Set<String> called = new TreeSet<>();
    private static final StringBuilder tape = new StringBuilder();
    private static String readme = "";
    private static TrunkLitters x = null;
    private static int calls = 0;
    private static int callsInAll = 0;
    private static int wrong = 0;

    private ReadmeTest() {
    }

    public static void main(String[] args) throws IOException, ReflectiveOperationException {
        boolean inside = false;
        readme = Files.readString(Path.of("README.md"));
        for (String line : readme.split("\n")) {
            if (line.startsWith("```")) {
                inside = line.equals("```java");
            } else if (inside) {
                follow(line);
            }
        }
        for (Method m : TrunkLitters.class.getDeclaredMethods()) {
            check(!Modifier.isPublic(m.getModifiers()) || called.contains(m.getName()), "no example of " + m.getName());
        }
        System.out.println(callsInAll + " calls of README.md, " + wrong + " wrong");
        if (wrong > 0) {
            System.exit(1);
        }
    }

    private static void check(boolean is, String text) {
        if (!is) {
            wrong++;
            System.out.println(text);
        }
    }

    private static void follow(String line) throws ReflectiveOperationException {
        if (line.equals(NEW_OBJECT)) {
            x = new TrunkLitters();
            calls = 0;
            return;
        }
        Matcher m = CALL.matcher(line);
        boolean isCall = m.matches() && x != null;
        check(isCall, "can't be followed: " + line);
        if (!isCall) {
            return;
        }
        String[] told = m.group(2).isEmpty() ? new String[0] : m.group(2).split(", ");
        Method method = methodOf(m.group(1), told.length);
        check(method != null, "no such call: " + line);
        if (method == null) {
            return;
        }
        Object[] given = numbers(method, told);
        String due = m.group(3).equals("NONE") ? "" + TrunkLitters.NONE : m.group(3);
        String got = String.valueOf(method.invoke(x, given));
        check(got.equals(due), line + " answered " + got);
        if (m.group(1).equals("feed")) {
            String bytes = bytes(given);
            check(('"' + bytes.replace("\n", "\\n") + '"').equals(m.group(4)), "not these bytes: " + line);
            tape.append(bytes);
        } else if (m.group(1).equals("end")) {
            checkToldText((Integer) given[0], line);
        }
        called.add(m.group(1));
        calls++;
        callsInAll++;
        check(calls <= MOST_CALLS, "more calls than an object is used for: " + line);
    }

    private static Method methodOf(String name, int parameters) {
        return List.of(TrunkLitters.class.getDeclaredMethods()).stream().filter(m -> Modifier.isPublic(m.getModifiers())
            && m.getName().equals(name) && m.getParameterCount() == parameters).findAny().orElse(null);
    }

    private static Object[] numbers(Method method, String[] told) {
        Object[] given = new Object[told.length];
        for (int i = 0; i < told.length; i++) {
            if (method.getParameterTypes()[i] == boolean.class) {
                given[i] = told[i].equals("true");
            } else {
                given[i] = Long.decode(told[i]).intValue();
            }
        }
        return given;
    }

    /** What is fed is the text that README.md tells, set in by four blanks. */
    private static void checkToldText(int length, String line) {
        String text = tape.substring(0, Math.min(length, tape.length())).stripTrailing();
        String told = "\n\n    " + text.replace("\n", "\n    ") + "\n\n";
        check(readme.contains(told), "not the text told ahead of " + line);
        tape.setLength(0);
    }

    private static String bytes(Object[] five) {
        StringBuilder s = new StringBuilder();
        for (Object n : five) {
            for (int shift = 24; shift >= 0; shift -= 8) {
                s.append((char) ((Integer) n >> shift & 255));
            }
        }
        return s.toString();
    }
}

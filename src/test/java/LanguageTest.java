import java.io.IOException;
import java.lang.reflect.Constructor;
import java.lang.reflect.Field;
import java.lang.reflect.Member;
import java.lang.reflect.Method;
import java.lang.reflect.Modifier;
import java.nio.file.Files;
import java.nio.file.Path;
import java.util.ArrayList;
import java.util.Arrays;
import java.util.List;
import java.util.Set;
import java.util.TreeSet;
import java.util.regex.Matcher;
import java.util.regex.Pattern;

/** The face is the document's, and the class keeps to those rules of LANGUAGE.md that can be told from outside. */
public final class LanguageTest {
    private static final String FACE = "feed(int,int,int,int,int)int end(int)int house()int fault(int)int "
        + "room(int,int)int trunk(int,int)int brood(int,int)int couple(int)int year()int carry(int,int)int tell(int)int "
        + "lose(int)int undo()boolean redo()boolean will(int,int,int)int alive(int)int pack()int fill(int,int)int "
        + "sires(int,int)int quartet(int,int,int,int,int)int span()int line(int)int litter(int)int kin(int,int)int "
        + "need(int)int best(int,int)int rivals(int,int)int fading(int)int alike(int,int)int like(int)int odd()int "
        + "bearers(int)int roomiest()int ripe()int law(int,int)int pining()int gone(int)int lies(int)int "
        + "held(int,int,boolean)int untell(int)boolean later(int)int fits(int)int sure(int,int)int ask(int,int)int "
        + "image(int)int back(int)int about(int)int";
    private static final Set<String> LIBRARY = Set.of("Math.max", "Math.min", "Integer.bitCount", "System.arraycopy",
        "WORDS.length", "WORDS.charAt", "Integer.MAX_VALUE");

    private static int wrong = 0;

    public static void main(String[] args) throws IOException {
        face();
        List<Class<?>> classes = new ArrayList<>(List.of(TrunkLitters.class.getDeclaredClasses()));
        check(classes.size() <= 12, "rule 11: " + classes.size() + " classes");
        for (Class<?> c : classes) {
            check(Modifier.isStatic(c.getModifiers()) && !Modifier.isPublic(c.getModifiers())
                && !Modifier.isProtected(c.getModifiers()), "rule 1: " + c);
            check(c.getDeclaredClasses().length == 0, "rule 11: classes within " + c);
        }
        classes.add(TrunkLitters.class);
        for (Class<?> c : classes) {
            fields(c);
            methods(c);
        }
        source(Files.readString(Path.of("src/main/java/TrunkLitters.java")));
        System.out.println(wrong + " rules broken");
        if (wrong > 0) {
            System.exit(1);
        }
    }

    private static void check(boolean is, String text) {
        if (!is) {
            wrong++;
            System.out.println(text);
        }
    }

    private static void face() {
        Set<String> has = new TreeSet<>();
        for (Method m : TrunkLitters.class.getDeclaredMethods()) {
            if (!Modifier.isPrivate(m.getModifiers())) {
                check(Modifier.isPublic(m.getModifiers()) && !Modifier.isStatic(m.getModifiers()), "rule 1: " + m);
                List<String> types = Arrays.stream(m.getParameterTypes()).map(Class::getName).toList();
                has.add(m.getName() + "(" + String.join(",", types) + ")" + m.getReturnType().getName());
            }
        }
        check(has.equals(new TreeSet<>(List.of(FACE.split(" ")))), "rule 1: the face is " + has);
        check(Modifier.isFinal(TrunkLitters.class.getModifiers()), "rule 1: not final");
        Constructor<?>[] made = TrunkLitters.class.getDeclaredConstructors();
        check(made.length == 1 && Modifier.isPublic(made[0].getModifiers()) && made[0].getParameterCount() == 0,
            "rule 1: constructors");
        check(TrunkLitters.class.getFields().length == 1 && TrunkLitters.NONE == -1, "rule 1: constants");
    }

    private static void fields(Class<?> c) {
        int own = 0;
        for (Field f : c.getDeclaredFields()) {
            boolean isFace = f.getName().equals("NONE") && c == TrunkLitters.class;
            check(isFace || c != TrunkLitters.class || Modifier.isPrivate(f.getModifiers()), "rule 1: " + f);
            if (Modifier.isStatic(f.getModifiers())) {
                check(Modifier.isFinal(f.getModifiers()), "rule 5: " + f);
                check(f.getType().isPrimitive() || f.getType() == String.class, "rule 5: " + f);
            } else {
                own++;
            }
        }
        check(own <= 20, "rule 11: " + own + " fields in " + c);
    }

    private static void methods(Class<?> c) {
        Set<String> face = new TreeSet<>();
        for (String one : FACE.split(" ")) {
            face.add(one.substring(0, one.indexOf('(')));
        }
        for (Method m : c.getDeclaredMethods()) {
            check(m.getParameterCount() <= 7, "rule 11: " + m);
            boolean isOfFace = c == TrunkLitters.class && isPublic(m);
            check(isOfFace || !face.contains(m.getName()), "rule 1: the name of " + m);
            check(!Set.of("equals", "hashCode", "toString").contains(m.getName()), "rule 6: " + m);
        }
    }

    private static boolean isPublic(Member m) {
        return Modifier.isPublic(m.getModifiers());
    }

    private static void source(String text) {
        String code = text.replaceAll("(?s)/\\*.*?\\*/", "").replaceAll("//[^\n]*", "");
        check(code.chars().allMatch(ch -> ch == '\n' || ch >= 32 && ch < 127), "rule 4: signs");
        String bare = code.replaceAll("\"[^\"]*\"", "\"\"");
        for (String no : ("throw throws try catch synchronized assert import package instanceof record enum interface "
            + "abstract native volatile transient double float Exception Error Object Thread Random").split(" ")) {
            check(!Pattern.compile("\\b" + no + "\\b").matcher(bare).find(), "rules 2, 6, 13: " + no);
        }
        check(!bare.contains("->") && !bare.contains("::"), "rule 2: a lambda or a method reference");
        check(!bare.contains("while (") && !bare.contains("do {"), "rule 9: a loop without a counter");
        check(!bare.contains("static {"), "rule 5: a static block");
        Matcher calls = Pattern.compile("\\b([A-Z]\\w*)\\.(\\w+)").matcher(bare);
        while (calls.find()) {
            boolean isOwn = calls.group(1).equals("Relations");
            check(isOwn || LIBRARY.contains(calls.group()), "rule 4: " + calls.group());
        }
        lengths(text);
    }

    private static void lengths(String text) {
        String[] lines = text.split("\n");
        Pattern head = Pattern.compile("( {4}| {8})(?! )[^;=]*\\([^;]*\\) \\{");
        for (int i = 0; i < lines.length; i++) {
            check(lines[i].length() <= 120, "a long line: " + (i + 1));
            Matcher m = head.matcher(lines[i]);
            if (m.matches()) {
                int end = i;
                while (end < lines.length && !lines[end].equals(m.group(1) + "}")) {
                    end++;
                }
                check(end - i < 60, "rule 11: a method of " + (end - i + 1) + " lines at " + (i + 1));
            }
        }
    }
}

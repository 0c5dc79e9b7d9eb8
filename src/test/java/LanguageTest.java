import java.io.IOException;
import java.lang.reflect.Field;
import java.lang.reflect.Member;
import java.lang.reflect.Method;
import java.lang.reflect.Modifier;
import java.nio.file.Files;
import java.nio.file.Path;
import java.util.ArrayList;
import java.util.List;
import java.util.TreeSet;

/** What of LANGUAGE.md can be seen by reflection and by the words of the source. */
public final class LanguageTest {
    private static final String FACE = " as(int,int) ask(int,int) back() behind(int,int) best(int,int) check(int)"
        + " copy(int,int,int,int,int) count(int) deal(int) fee() feed(int,int,int) fine(int) freedom() friends(int,int,int)"
        + " item(int,int) keep() lay(int,int,int) lied(int,int) mark(int,int,int) minds(int) person(int,int,int) pour(int)"
        + " reads(int) rest(int,int) rule(int,int) seed(int) set(int,int,int) settles() sheet(int,int,int) tell(int) text()"
        + " textTold(int,int) together() told(int,int) town(int) trim(int) turns(int,int) ways() why(int) won(int,int)"
        + " years(int)";

    public static void main(String[] args) throws IOException {
        theFace();
        everyClass();
        words();
        madeInConstructorsAlone();
        lengths();
        Due.end();
    }

    private static void due(String what, long got, long want) {
        Due.due(what, got, want);
    }

    private static List<Class<?>> classes() {
        List<Class<?>> all = new ArrayList<>();
        all.add(HalfFriends.class);
        all.addAll(List.of(HalfFriends.class.getDeclaredClasses()));
        return all;
    }

    private static void theFace() {
        TreeSet<String> names = new TreeSet<>();
        StringBuilder face = new StringBuilder();
        for (Method m : HalfFriends.class.getDeclaredMethods()) {
            if (Modifier.isPublic(m.getModifiers())) {
                StringBuilder s = new StringBuilder(m.getName()).append('(');
                for (int k = 0; k < m.getParameterCount(); k++) {
                    s.append(k == 0 ? "" : ",").append(m.getParameterTypes()[k].getName());
                }
                names.add(s.append(')').toString());
                due(m.getName() + " answers an int", m.getReturnType() == int.class ? 1 : 0, 1);
            } else {
                isPrivate(m);
            }
        }
        for (String name : names) {
            face.append(' ').append(name);
        }
        due("the face is" + face, face.toString().equals(FACE) ? 1 : 0, 1);
        int constants = 0;
        for (Field f : HalfFriends.class.getDeclaredFields()) {
            if (Modifier.isPublic(f.getModifiers())) {
                constants++;
            } else {
                isPrivate(f);
            }
        }
        due("public constants", constants, 8);
        due("constructors", HalfFriends.class.getConstructors().length, 1);
        due("final", Modifier.isFinal(HalfFriends.class.getModifiers()) ? 1 : 0, 1);
        int[] values = {HalfFriends.BAD, HalfFriends.NO, HalfFriends.FULL, HalfFriends.NONE, HalfFriends.NOTHING,
            HalfFriends.KIND, HalfFriends.INDEX, HalfFriends.SIZE};
        int[] want = {Due.BAD, Due.NO, Due.FULL, Due.NONE, Due.NOTHING, Due.KIND, Due.INDEX, Due.SIZE};
        for (int k = 0; k < 8; k++) {
            due("constant " + k, values[k], want[k]);
        }
    }

    private static void isPrivate(Member m) {
        due(m.getName() + " is private", Modifier.isPrivate(m.getModifiers()) ? 1 : 0, 1);
    }

    private static void everyClass() {
        due("at most twelve classes", classes().size() <= 12 ? 1 : 0, 1);
        for (Class<?> c : classes()) {
            int fields = 0;
            for (Field f : c.getDeclaredFields()) {
                boolean isStatic = Modifier.isStatic(f.getModifiers());
                fields += isStatic ? 0 : 1;
                due(f + " is final, if static", !isStatic || Modifier.isFinal(f.getModifiers()) ? 1 : 0, 1);
            }
            due(c + " has at most twenty fields", fields <= 20 ? 1 : 0, 1);
            for (Method m : c.getDeclaredMethods()) {
                due(m + " has at most seven parameters", m.getParameterCount() <= 7 ? 1 : 0, 1);
                boolean faceName = FACE.contains(" " + m.getName() + "(");
                boolean ofTheFace = c == HalfFriends.class && Modifier.isPublic(m.getModifiers());
                due(m + " bears no public one's name", ofTheFace || !faceName ? 1 : 0, 1);
            }
            if (c != HalfFriends.class) {
                due(c + " is static", Modifier.isStatic(c.getModifiers()) ? 1 : 0, 1);
                due(c + " is not public", Modifier.isPublic(c.getModifiers()) ? 1 : 0, 0);
            }
        }
    }

    private static List<String> source() throws IOException {
        return Files.readAllLines(Path.of("src/main/java/HalfFriends.java"));
    }

    private static void words() throws IOException {
        String[] none = {"throw", "throws", "try", "catch", "synchronized", "assert", "import", "package", "protected",
            "instanceof", "record", "native", "volatile", "transient", "System.currentTimeMillis", "System.nanoTime",
            "Object", "double", "float", "var", "yield", "null", "StringBuilder"};
        int at = 0;
        for (String line : source()) {
            at++;
            String code = line.replaceAll("\"[^\"]*\"|'.'", "").replaceAll("//.*|/?\\*.*", "");
            for (String word : none) {
                due("line " + at + " has no " + word, code.matches(".*\\b" + word + "\\b.*") ? 1 : 0, 0);
            }
            due("line " + at + " has no lambda, no method reference", code.contains("->") || code.contains("::") ? 1 : 0, 0);
            due("line " + at + " is in ASCII", line.matches("\\p{ASCII}*") ? 1 : 0, 1);
        }
    }

    /** What a run makes is counted: no call makes an object or an array. */
    private static void madeInConstructorsAlone() throws IOException {
        int at = 0;
        for (String line : source()) {
            at++;
            boolean makes = line.matches(".*\\bnew [A-Za-z].*") && !line.contains("*");
            boolean inConstructor = line.matches(" {4,8}(private )?final .* = new .*;") || line.matches(" {12}(sheets|slots)\\[k\\] = new .*;");
            due("line " + at + " makes something in a constructor alone", !makes || inConstructor ? 1 : 0, 1);
        }
    }

    private static void lengths() throws IOException {
        int begin = 0;
        int at = 0;
        String head = "";
        for (String line : source()) {
            at++;
            if (line.matches("( {4}| {8})[a-zA-Z].*\\) \\{")) {
                begin = at;
                head = line.trim();
            } else if (line.matches("( {4}| {8})\\}") && begin > 0) {
                due(head + " has at most sixty lines", at - begin < 60 ? 1 : 0, 1);
                begin = 0;
            }
        }
    }
}

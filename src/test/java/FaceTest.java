import java.lang.reflect.Constructor;
import java.lang.reflect.Field;
import java.lang.reflect.Method;
import java.lang.reflect.Modifier;
import java.nio.file.Files;
import java.nio.file.Path;
import java.util.Arrays;
import java.util.HashSet;
import java.util.Set;
import java.util.TreeSet;
import java.util.regex.Matcher;
import java.util.regex.Pattern;

/** The class's members are those of the document, and its file keeps to what of LANGUAGE.md can be seen in its text. */
public final class FaceTest {
    private static final String[] METHODS = {
        "angel(int)", "figure(int,int)", "tune(int)", "hush()", "of(int,int)", "leads(int,int)", "at(int)", "seen(int)",
        "type(int)", "ring()", "count(int)", "beats(int)", "draught(int)", "leave(int)", "come(int,int)", "drift(int)",
        "undo()", "seed(int)", "ahead(int,int)", "then(int,int,int)", "back(int)", "been(int)", "shortest(int,int)",
        "sorts()", "apart(int,int,int)", "chance(int,int,int,int)", "image()", "restore()",
        "counts(int,int,int,int,int,int)", "steps(int,int,int,int,int,int,int)", "film(int,int,int,int,int)",
        "sheet(int,int,int)", "drop(int)", "item(int,int,int,long)", "copy(int,int,int,int,int)"};
    private static final String[] CONSTANTS = {"BAD", "NOT", "FULL", "NONE", "NULL", "CAST", "INDEX", "SIZE"};
    private static final String[] NOT_IN_FILE = {
        "->", "::", "Exact", "catch", "finally", "synchronized", "assert ", "import ", "package ", "Random", "System.nano",
        "System.current", "Thread", "throw "};

    private static final Due due = new Due();

    public static void main(String[] args) throws Exception {
        members();
        constants();
        nested(PinAngels.class);
        sizes(PinAngels.class);
        for (Class<?> c : PinAngels.class.getDeclaredClasses()) {
            sizes(c);
        }
        text();
        library();
        due.end("FaceTest");
    }

    private static String face(Method m) {
        StringBuilder b = new StringBuilder(m.getName()).append('(');
        for (Class<?> p : m.getParameterTypes()) {
            b.append(b.charAt(b.length() - 1) == '(' ? "" : ",").append(p.getName());
        }
        return b.append(')').toString();
    }

    private static void members() {
        Set<String> open = new TreeSet<>();
        for (Method m : PinAngels.class.getDeclaredMethods()) {
            if (!Modifier.isPrivate(m.getModifiers())) {
                open.add(face(m));
                due.holds(m + " is public, of the object, and answers an int",
                        m.getReturnType() == int.class && m.getModifiers() == Modifier.PUBLIC);
            }
        }
        due.holds("the methods: " + open, open.equals(new TreeSet<>(Arrays.asList(METHODS))));
        Constructor<?>[] makers = PinAngels.class.getDeclaredConstructors();
        due.holds("one public constructor without arguments", makers.length == 1
                && makers[0].getParameterCount() == 0 && makers[0].getModifiers() == Modifier.PUBLIC);
        due.holds("public and final", PinAngels.class.getModifiers() == (Modifier.PUBLIC | Modifier.FINAL));
    }

    private static void constants() throws Exception {
        Set<String> open = new TreeSet<>();
        for (Field f : PinAngels.class.getDeclaredFields()) {
            if (!Modifier.isPrivate(f.getModifiers())) {
                open.add(f.getName());
                due.holds(f + " is a constant", f.getType() == int.class
                        && f.getModifiers() == (Modifier.PUBLIC | Modifier.STATIC | Modifier.FINAL));
            }
        }
        due.holds("the constants: " + open, open.equals(new TreeSet<>(Arrays.asList(CONSTANTS))));
        int[] values = {-1, -2, -3, -4, -11, -12, -13, -14};
        for (int i = 0; i < values.length; i++) {
            due.is(CONSTANTS[i], PinAngels.class.getField(CONSTANTS[i]).getInt(null), values[i]);
        }
    }

    private static Set<String> names() {
        Set<String> names = new HashSet<>();
        for (String m : METHODS) {
            names.add(m.substring(0, m.indexOf('(')));
        }
        return names;
    }

    private static void nested(Class<?> outer) {
        Set<String> names = names();
        for (Method m : outer.getDeclaredMethods()) {
            due.holds(m + " has a name of its own, if private",
                    !Modifier.isPrivate(m.getModifiers()) || !names.contains(m.getName()));
        }
        due.holds("at most twelve classes", outer.getDeclaredClasses().length < 12);
        for (Class<?> c : outer.getDeclaredClasses()) {
            due.holds(c + " is static", Modifier.isStatic(c.getModifiers()));
            for (Method m : c.getDeclaredMethods()) {
                due.holds(m + " has a name of its own", !names.contains(m.getName()));
            }
            for (Field f : c.getDeclaredFields()) {
                due.holds(f + " is final if static",
                        !Modifier.isStatic(f.getModifiers()) || Modifier.isFinal(f.getModifiers()));
            }
        }
    }

    /** "A method takes at most seven parameters .. a class some twenty fields beside its constants." */
    private static void sizes(Class<?> c) {
        for (Method m : c.getDeclaredMethods()) {
            due.holds(m + " takes at most seven", m.getParameterCount() <= 7);
        }
        int fields = 0;
        for (Field f : c.getDeclaredFields()) {
            fields += Modifier.isStatic(f.getModifiers()) ? 0 : 1;
        }
        due.holds(c + " has at most twenty fields", fields <= 20);
    }

    /** "The library: only what stands here", by the names that begin with a capital and are followed by a dot. */
    private static void library() throws Exception {
        Set<String> used = new TreeSet<>();
        String code = file().replaceAll("(?s)/\\*.*?\\*/|//[^\n]*", "");
        Matcher m = Pattern.compile("\\b[A-Z][a-z]\\w*\\.\\w+").matcher(code);
        while (m.find()) {
            used.add(m.group());
        }
        used.removeAll(Set.of("Tape.BLANK", "Tape.LAST_LETTER"));
        Set<String> listed = Set.of("System.arraycopy", "Math.min", "Math.max", "Integer.bitCount");
        due.holds("the library: " + used, listed.containsAll(used));
    }

    private static String file() throws Exception {
        return Files.readString(Path.of("src/main/java/PinAngels.java"));
    }

    private static void text() throws Exception {
        String text = file();
        for (String no : NOT_IN_FILE) {
            due.holds("the file has no '" + no + "'", !text.contains(no));
        }
        due.holds("the file has characters 10, 32 to 126 alone", text.chars().allMatch(c -> c == 10 || c >= 32 && c <= 126));
    }
}

import java.lang.reflect.Constructor;
import java.lang.reflect.Field;
import java.lang.reflect.Method;
import java.lang.reflect.Modifier;
import java.nio.file.Files;
import java.nio.file.Path;
import java.util.Arrays;
import java.util.HashSet;
import java.util.Set;
import java.util.TreeSet;

/** The class's members are those of the document, and its file keeps to what of LANGUAGE.md can be seen in its text. */
public final class FaceTest {
    private static final String[] METHODS = {
        "angel(int)", "figure(int,int)", "tune(int)", "hush()", "of(int,int)", "leads(int,int)", "at(int)", "seen(int)",
        "type(int)", "ring()", "count(int)", "beats(int)", "draught(int)", "leave(int)", "come(int,int)", "drift(int)",
        "undo()", "seed(int)", "ahead(int,int)", "then(int,int,int)", "back(int)", "been(int)", "shortest(int,int)",
        "sorts()", "apart(int,int,int)", "chance(int,int,int,int)", "image()", "restore()",
        "counts(int,int,int,int,int,int)", "steps(int,int,int,int,int,int,int)", "film(int,int,int,int,int)",
        "sheet(int,int,int)", "drop(int)", "item(int,int,int,long)", "copy(int,int,int,int,int)"};
    private static final String[] CONSTANTS = {"BAD", "NOT", "FULL", "NONE", "NULL", "CAST", "INDEX", "SIZE"};
    private static final String[] NOT_IN_FILE = {
        "->", "::", "Exact", "catch", "finally", "synchronized", "assert ", "import ", "package ", "Random", "System.nano",
        "System.current", "Thread", "throw "};

    private static final Due due = new Due();

    public static void main(String[] args) throws Exception {
        members();
        constants();
        nested(PinAngels.class);
        text();
        due.end("FaceTest");
    }

    private static String face(Method m) {
        StringBuilder b = new StringBuilder(m.getName()).append('(');
        for (Class<?> p : m.getParameterTypes()) {
            b.append(b.charAt(b.length() - 1) == '(' ? "" : ",").append(p.getName());
        }
        return b.append(')').toString();
    }

    private static void members() {
        Set<String> open = new TreeSet<>();
        for (Method m : PinAngels.class.getDeclaredMethods()) {
            if (!Modifier.isPrivate(m.getModifiers())) {
                open.add(face(m));
                due.holds(m + " is public, of the object, and answers an int",
                        m.getReturnType() == int.class && m.getModifiers() == Modifier.PUBLIC);
            }
        }
        due.holds("the methods: " + open, open.equals(new TreeSet<>(Arrays.asList(METHODS))));
        Constructor<?>[] makers = PinAngels.class.getDeclaredConstructors();
        due.holds("one public constructor without arguments", makers.length == 1
                && makers[0].getParameterCount() == 0 && makers[0].getModifiers() == Modifier.PUBLIC);
        due.holds("public and final", PinAngels.class.getModifiers() == (Modifier.PUBLIC | Modifier.FINAL));
    }

    private static void constants() throws Exception {
        Set<String> open = new TreeSet<>();
        for (Field f : PinAngels.class.getDeclaredFields()) {
            if (!Modifier.isPrivate(f.getModifiers())) {
                open.add(f.getName());
                due.holds(f + " is a constant", f.getType() == int.class
                        && f.getModifiers() == (Modifier.PUBLIC | Modifier.STATIC | Modifier.FINAL));
            }
        }
        due.holds("the constants: " + open, open.equals(new TreeSet<>(Arrays.asList(CONSTANTS))));
        int[] values = {-1, -2, -3, -4, -11, -12, -13, -14};
        for (int i = 0; i < values.length; i++) {
            due.is(CONSTANTS[i], PinAngels.class.getField(CONSTANTS[i]).getInt(null), values[i]);
        }
    }

    private static void nested(Class<?> outer) {
        Set<String> names = new HashSet<>();
        for (String m : METHODS) {
            names.add(m.substring(0, m.indexOf('(')));
        }
        due.holds("at most twelve classes", outer.getDeclaredClasses().length < 12);
        for (Class<?> c : outer.getDeclaredClasses()) {
            due.holds(c + " is static", Modifier.isStatic(c.getModifiers()));
            for (Method m : c.getDeclaredMethods()) {
                due.holds(m + " has a name of its own", !names.contains(m.getName()));
            }
            for (Field f : c.getDeclaredFields()) {
                due.holds(f + " is final if static",
                        !Modifier.isStatic(f.getModifiers()) || Modifier.isFinal(f.getModifiers()));
            }
        }
    }

    private static void text() throws Exception {
        String text = Files.readString(Path.of("src/main/java/PinAngels.java"));
        for (String no : NOT_IN_FILE) {
            due.holds("the file has no '" + no + "'", !text.contains(no));
        }
        due.holds("the file has characters 10, 32 to 126 alone", text.chars().allMatch(c -> c == 10 || c >= 32 && c <= 126));
    }
}

import java.lang.reflect.Method;
import java.nio.file.Files;
import java.nio.file.Path;
import java.util.Set;
import java.util.TreeSet;
import java.util.regex.Matcher;
import java.util.regex.Pattern;

/** README.md tells the truth: its example answers what it says, and it names every call and every constant. */
public final class ReadmeTest {
    private static final Pattern TAPE = Pattern.compile("\"(.*)\"\\.toCharArray\\(\\)\\) pin\\.type\\(c\\);");
    private static final Pattern CALL = Pattern.compile("pin\\.(\\w+)\\(([^)]*)\\);\\s+// (-?\\d+)[:,].*");
    private static final Pattern CONSTANT = Pattern.compile("\\| (-\\d+) \\| `(\\w+)` \\|.*");
    private static final Pattern NAMED = Pattern.compile("`(\\w+)\\(");

    private static final Due due = new Due();

    public static void main(String[] args) throws Exception {
        String page = Files.readString(Path.of("README.md"));
        example(page);
        calls(page);
        constants(page);
        due.end("ReadmeTest");
    }

    private static void example(String page) throws Exception {
        PinAngels pin = new PinAngels();
        int asked = 0;
        for (String line : page.split("\n")) {
            Matcher tape = TAPE.matcher(line);
            if (tape.find()) {
                Due.type(pin, tape.group(1));
            }
            Matcher call = CALL.matcher(line);
            if (call.matches()) {
                due.is(line, answer(pin, call.group(1), call.group(2)), Integer.parseInt(call.group(3)));
                asked++;
            }
        }
        due.is("the example's calls", asked, 7);
    }

    private static int answer(PinAngels pin, String name, String told) throws Exception {
        String[] parts = told.isEmpty() ? new String[0] : told.split(", ");
        Class<?>[] types = new Class<?>[parts.length];
        Object[] numbers = new Object[parts.length];
        for (int i = 0; i < parts.length; i++) {
            types[i] = int.class;
            numbers[i] = Integer.valueOf(parts[i]);
        }
        return (Integer) PinAngels.class.getMethod(name, types).invoke(pin, numbers);
    }

    private static void calls(String page) {
        Set<String> face = new TreeSet<>();
        for (Method m : PinAngels.class.getDeclaredMethods()) {
            if ((m.getModifiers() & java.lang.reflect.Modifier.PUBLIC) != 0) {
                face.add(m.getName());
            }
        }
        Set<String> named = new TreeSet<>();
        Matcher m = NAMED.matcher(page);
        while (m.find()) {
            named.add(m.group(1));
        }
        due.same("the calls that the page names", named.toString(), face.toString());
    }

    private static void constants(String page) throws Exception {
        int named = 0;
        for (String line : page.split("\n")) {
            Matcher m = CONSTANT.matcher(line);
            if (m.matches()) {
                due.is(m.group(2), PinAngels.class.getField(m.group(2)).getInt(null), Integer.parseInt(m.group(1)));
                named++;
            }
        }
        due.is("the constants that the page names", named, 8);
    }
}

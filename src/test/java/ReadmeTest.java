import java.io.IOException;
import java.lang.reflect.Method;
import java.lang.reflect.Modifier;
import java.nio.file.Files;
import java.nio.file.Path;
import java.util.List;
import java.util.regex.Matcher;
import java.util.regex.Pattern;

/** README.md shows calls with their answers, and tells of every call with as many arguments as it has. */
public final class ReadmeTest extends CarpetTest {
    private static final Pattern NEW = Pattern.compile("StretchedCarpet x = new StretchedCarpet\\(\\);");
    private static final Pattern SHOWN = Pattern.compile("x\\.(\\w+)\\((.*)\\); +// (-?\\d+)(: .*)?");
    private static final Pattern TOLD = Pattern.compile("\\| `(\\w+)\\((.*)\\)` \\| .*");

    /** Fewer than these are read where the page shows its calls in another form: then this test would see nothing. */
    private static final int LEAST_SHOWN = 20;

    private static String[] parted(String arguments) {
        if (arguments.isEmpty()) {
            return new String[0];
        }
        return arguments.startsWith("'") ? new String[] {arguments} : arguments.split(", ");
    }

    private static int number(String argument) {
        return argument.startsWith("'") ? argument.charAt(1) : Integer.parseInt(argument);
    }

    private static int answer(StretchedCarpet x, String name, String[] arguments) throws ReflectiveOperationException {
        Class<?>[] types = new Class<?>[arguments.length];
        Object[] numbers = new Object[arguments.length];
        for (int i = 0; i < arguments.length; i++) {
            types[i] = int.class;
            numbers[i] = number(arguments[i]);
        }
        return (Integer) StretchedCarpet.class.getMethod(name, types).invoke(x, numbers);
    }

    private static void shown(List<String> page) throws ReflectiveOperationException {
        StretchedCarpet x = new StretchedCarpet();
        int shown = 0;
        for (String line : page) {
            x = NEW.matcher(line).matches() ? new StretchedCarpet() : x;
            Matcher call = SHOWN.matcher(line);
            if (call.matches()) {
                shown++;
                due(line, answer(x, call.group(1), parted(call.group(2))), Integer.parseInt(call.group(3)));
            }
        }
        due("some " + LEAST_SHOWN + " calls are shown", shown >= LEAST_SHOWN, true);
    }

    private static void told(List<String> page) {
        for (Method method : StretchedCarpet.class.getDeclaredMethods()) {
            if (Modifier.isPublic(method.getModifiers())) {
                int rows = 0;
                for (String line : page) {
                    Matcher row = TOLD.matcher(line);
                    boolean fits = row.matches() && row.group(1).equals(method.getName());
                    rows += fits && parted(row.group(2)).length == method.getParameterCount() ? 1 : 0;
                }
                due("rows that tell of " + method.getName(), rows, 1);
            }
        }
    }

    private static void constants(List<String> page) throws ReflectiveOperationException {
        for (String name : new String[] {"BAD", "NO", "FULL", "NONE"}) {
            int number = StretchedCarpet.class.getField(name).getInt(null);
            String row = "| `" + name + "` | " + number + " | ";
            due(row, page.stream().filter(line -> line.startsWith(row)).count(), 1L);
        }
    }

    /** What an item's row says of a room without that item holds of a room that leaves it out. */
    private static void without() {
        due("r3,60;", laid("s9,0,0;").left(1), laid("s9,0,0;r3,60;").left(1));
        due("o2;", laid("s9,0,0;").cut(1), laid("s9,0,0;o2;").cut(1));
        due("d4;", laid("s9,0,0;").damp(5), laid("s9,0,0;d4;").damp(5));
        StretchedCarpet plain = withCuts(laid("s9,0,0;"), 1);
        StretchedCarpet told = withCuts(laid("s9,0,0;h12;k0,3;"), 1);
        plain.hook(0, 0);
        told.hook(0, 0);
        for (int t = 0; t <= 30; t++) {
            due("h12;k0,3;, t = " + t, plain.kickFor(1, t), told.kickFor(1, t));
        }
    }

    public static void main(String[] args) throws IOException, ReflectiveOperationException {
        test = "README.md";
        List<String> page = Files.readAllLines(Path.of("README.md"));
        shown(page);
        told(page);
        constants(page);
        without();
        end();
    }
}

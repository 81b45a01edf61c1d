import java.io.IOException;
import java.lang.reflect.Method;
import java.nio.file.Files;
import java.nio.file.Path;
import java.util.ArrayList;
import java.util.List;
import java.util.Set;
import java.util.TreeSet;
import java.util.regex.Matcher;
import java.util.regex.Pattern;

/** README.md's example answers as it says there, and its table has every method of the class. */
public final class ReadmeTest {
    private static final Pattern CALL = Pattern.compile("tree\\.(\\w+)\\(([^)]*)\\); +// (-?\\d+): .+");
    private static int wrong = 0;

    public static void main(String[] args) throws ReflectiveOperationException, IOException {
        List<String> lines = Files.readAllLines(Path.of("README.md"));
        BestTree tree = new BestTree();
        Set<String> called = new TreeSet<>();
        for (String line : lines) {
            Matcher call = CALL.matcher(line);
            if (call.matches()) {
                called.add(call.group(1));
                due(line, answer(tree, call.group(1), call.group(2)), Integer.parseInt(call.group(3)));
            }
        }
        for (Method method : BestTree.class.getMethods()) {
            if (method.getDeclaringClass() == BestTree.class) {
                told(lines, called, method);
            }
        }
        System.out.println(wrong + " faults in README.md");
        if (wrong != 0) {
            System.exit(1);
        }
    }

    private static void due(String line, int got, int want) {
        if (got != want) {
            wrong++;
            System.out.println("the example answers " + got + ": " + line);
        }
    }

    private static int answer(BestTree tree, String name, String text) throws ReflectiveOperationException {
        List<Class<?>> types = new ArrayList<>();
        List<Object> arguments = new ArrayList<>();
        for (String part : text.isEmpty() ? new String[0] : text.split(", ")) {
            boolean truth = part.equals("true") || part.equals("false");
            types.add(truth ? boolean.class : int.class);
            arguments.add(truth ? (Object) Boolean.valueOf(part) : (Object) number(part));
        }
        Method method = BestTree.class.getMethod(name, types.toArray(new Class<?>[0]));
        return (Integer) method.invoke(tree, arguments.toArray());
    }

    private static int number(String text) {
        return text.startsWith("0b") ? Integer.parseInt(text.substring(2), 2) : Integer.parseInt(text);
    }

    private static void told(List<String> lines, Set<String> called, Method method) {
        String row = "| `" + method.getName() + "(";
        if (lines.stream().noneMatch(line -> line.startsWith(row))) {
            wrong++;
            System.out.println("the table lacks " + method.getName());
        }
        if (!called.contains(method.getName())) {
            wrong++;
            System.out.println("the example lacks " + method.getName());
        }
    }
}

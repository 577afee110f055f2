import java.io.File;
import java.io.IOException;
import java.lang.reflect.Method;
import java.lang.reflect.Modifier;
import java.nio.file.Files;
import java.nio.file.Path;
import java.util.ArrayList;
import java.util.List;
import java.util.regex.Matcher;
import java.util.regex.Pattern;

/** The README's run of calls answers what stands beside each; every method is called in it, every test named. */
public final class ReadmeTest {
    private static final Pattern MAKING = Pattern.compile("TankChain valley = new TankChain\\((\\d+)\\);");
    private static final Pattern CALL =
        Pattern.compile("valley\\.(\\w+)\\(([^()]*)\\); +// (-?\\d+|true|false)(:.*)?");

    private final List<String> called = new ArrayList<>();
    private TankChain valley;

    public static void main(String[] args) throws IOException, ReflectiveOperationException {
        List<String> lines = Files.readAllLines(Path.of("README.md"));
        ReadmeTest readme = new ReadmeTest();
        for (String row : block(lines, "```java")) {
            readme.goThrough(row);
        }
        readme.callsEveryMethod();
        Due.due("the one command", block(lines, "```sh").equals(List.of(".ci/run")), true);
        Due.due("the one command may be run", Files.isExecutable(Path.of(".ci/run")), true);
        everyTestIsNamed(lines);
        Due.close();
    }

    private static List<String> block(List<String> lines, String fence) {
        int begin = lines.indexOf(fence);
        Due.due("README has a block " + fence, begin >= 0, true);
        List<String> rows = new ArrayList<>();
        for (int i = begin + 1; begin >= 0 && i < lines.size() && !lines.get(i).equals("```"); i++) {
            rows.add(lines.get(i));
        }
        return rows;
    }

    private void goThrough(String row) throws ReflectiveOperationException {
        Matcher making = MAKING.matcher(row);
        Matcher call = CALL.matcher(row);
        if (making.matches()) {
            valley = new TankChain(Integer.parseInt(making.group(1)));
        } else if (call.matches() && valley != null) {
            called.add(call.group(1));
            String answer = String.valueOf(answerOf(call.group(1), call.group(2)));
            Due.due(row + " (it answers " + answer + ")", answer.equals(call.group(3)), true);
        } else {
            Due.due("README tells no answer in: " + row, row.isEmpty() || row.startsWith("// "), true);
        }
    }

    private Object answerOf(String name, String text) throws ReflectiveOperationException {
        String[] parts = text.isEmpty() ? new String[0] : text.split(", ");
        for (Method one : TankChain.class.getDeclaredMethods()) {
            if (one.getName().equals(name) && one.getParameterCount() == parts.length) {
                return one.invoke(valley, arguments(one.getParameterTypes(), parts));
            }
        }
        return "no such call";
    }

    private static Object[] arguments(Class<?>[] types, String[] parts) {
        Object[] values = new Object[parts.length];
        for (int i = 0; i < parts.length; i++) {
            if (types[i] == boolean.class) {
                values[i] = parts[i].equals("true");
            } else {
                values[i] = Integer.decode(parts[i]);
            }
        }
        return values;
    }

    private void callsEveryMethod() {
        for (Method one : TankChain.class.getDeclaredMethods()) {
            if (Modifier.isPublic(one.getModifiers())) {
                Due.due("README calls " + one.getName(), called.contains(one.getName()), true);
            }
        }
    }

    private static void everyTestIsNamed(List<String> lines) {
        String[] files = new File("src/test/java").list();
        Due.due("there are tests", files != null && files.length > 0, true);
        for (String file : files == null ? new String[0] : files) {
            String name = file.replace(".java", "");
            boolean named = lines.stream().anyMatch(line -> line.startsWith("- `" + name + "`: "));
            Due.due("README names " + name, named, name.endsWith("Test"));
        }
    }
}

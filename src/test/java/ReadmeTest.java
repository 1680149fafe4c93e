import java.io.IOException;
import java.lang.reflect.InvocationTargetException;
import java.lang.reflect.Method;
import java.lang.reflect.Modifier;
import java.nio.file.Files;
import java.nio.file.Path;
import java.util.ArrayList;
import java.util.HashMap;
import java.util.List;
import java.util.Map;
import java.util.regex.Matcher;
import java.util.regex.Pattern;

/** The examples of README.md, run as they stand there, and its table of calls. */
public final class ReadmeTest {
    private static final String NEW_OBJECT = "NameSpaces x = new NameSpaces();";
    private static final Pattern TYPED = Pattern.compile("path\\(x, \"(.*)\"\\);");
    private static final Pattern CALL =
        Pattern.compile("(?:int (\\w+) = )?x\\.(\\w+)\\((.*)\\); +// (-?\\w+): .*");

    private NameSpaces x = new NameSpaces();
    private final Map<String, Integer> variables = new HashMap<>();

    public static void main(String[] args) throws IOException {
        List<String> lines = Files.readAllLines(Path.of("README.md"));
        int examples = 0;
        for (List<String> block : javaBlocks(lines)) {
            if (block.get(0).equals(NEW_OBJECT)) {
                examples++;
                new ReadmeTest().run(block);
            }
        }
        Session.due("examples that were found", examples, 2);
        dueTable(lines);
        Session.end("README.md");
    }

    private static List<List<String>> javaBlocks(List<String> lines) {
        List<List<String>> blocks = new ArrayList<>();
        boolean inside = false;
        for (String line : lines) {
            if (line.equals("```java")) {
                inside = true;
                blocks.add(new ArrayList<>());
            } else if (line.startsWith("```")) {
                inside = false;
            } else if (inside) {
                blocks.get(blocks.size() - 1).add(line);
            }
        }
        return blocks;
    }

    private void run(List<String> block) {
        for (String line : block) {
            Matcher typed = TYPED.matcher(line);
            Matcher call = CALL.matcher(line);
            if (line.equals(NEW_OBJECT)) {
                x = new NameSpaces();
            } else if (typed.matches()) {
                typed.group(1).chars().forEach(c -> x.type((char) c));
            } else if (call.matches()) {
                dueAnswer(line, call);
            } else {
                Session.due("a line that is no example: " + line, 0, 1);
            }
        }
    }

    private void dueAnswer(String line, Matcher call) {
        String got = answer(call.group(2), call.group(3).split(", *"));
        boolean same = got.equals(call.group(4));
        Session.due(line + " answers " + got + "; that this is as written", same ? 1 : 0, 1);
        if (call.group(1) != null && same) {
            variables.put(call.group(1), Integer.parseInt(got));
        }
    }

    private String answer(String name, String[] written) {
        try {
            for (Method method : NameSpaces.class.getMethods()) {
                if (method.getName().equals(name) && method.getDeclaringClass() == NameSpaces.class) {
                    return method.invoke(x, values(method.getParameterCount(), written)).toString();
                }
            }
            return "no such call";
        } catch (InvocationTargetException e) {
            return e.getCause().getClass().getSimpleName();
        } catch (IllegalAccessException e) {
            return "no public call";
        }
    }

    private Object[] values(int count, String[] written) {
        Object[] values = new Object[count];
        for (int i = 0; i < count; i++) {
            values[i] = value(written[i]);
        }
        return values;
    }

    private Object value(String written) {
        if (written.equals("true") || written.equals("false")) {
            return written.equals("true");
        }
        return variables.containsKey(written) ? variables.get(written) : Integer.valueOf(written);
    }

    private static void dueTable(List<String> lines) {
        for (Method method : NameSpaces.class.getDeclaredMethods()) {
            if (Modifier.isPublic(method.getModifiers())) {
                String row = "| `" + method.getName() + "(";
                long rows = lines.stream().filter(line -> line.startsWith(row)).count();
                Session.due("rows of the table for " + method.getName(), (int) rows, 1);
            }
        }
    }
}

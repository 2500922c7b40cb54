import java.io.IOException;
import java.lang.reflect.Method;
import java.lang.reflect.Modifier;
import java.nio.file.Files;
import java.nio.file.Path;
import java.util.Set;
import java.util.TreeSet;
import java.util.regex.Matcher;
import java.util.regex.Pattern;

/** The answers that README.md shows are the ones that the class gives, and every call is shown. */
public final class ReadmeTest {
    private static final Pattern BLOCK = Pattern.compile("(?s)```java\n(.*?)```");
    private static final Pattern CALL = Pattern.compile("x\\.(\\w+)\\(([^)]*)\\);\\s*// (-?\\d+)(?::.*)?");
    private static final Pattern FINDING = Pattern.compile("\\| (-\\d+ [A-Z]+) \\| .* \\| (\\d) \\|");
    private static final Checks c = new Checks("ReadmeTest");
    private static final Set<String> shown = new TreeSet<>();

    public static void main(String[] args) throws IOException, ReflectiveOperationException {
        String readme = Files.readString(Path.of("README.md"));
        Matcher blocks = BLOCK.matcher(readme);
        while (blocks.find()) {
            block(blocks.group(1));
        }
        c.same("the calls that are shown", shown.toString(), face().toString());
        findings(readme);
        c.end();
    }

    private static Set<String> face() {
        Set<String> names = new TreeSet<>();
        for (Method m : MoleSecrets.class.getDeclaredMethods()) {
            if (Modifier.isPublic(m.getModifiers())) {
                names.add(m.getName());
            }
        }
        return names;
    }

    private static void block(String text) throws ReflectiveOperationException {
        MoleSecrets x = new MoleSecrets();
        for (String line : text.split("\n")) {
            if (line.equals("MoleSecrets x = new MoleSecrets();")) {
                x = new MoleSecrets();
                continue;
            }
            Matcher call = CALL.matcher(line);
            if (call.matches()) {
                shown.add(call.group(1));
                c.due(line, answer(x, call.group(1), call.group(2)), Long.parseLong(call.group(3)));
            } else {
                c.same("a line of README.md", line, "a call with its answer");
            }
        }
    }

    private static long answer(MoleSecrets x, String name, String arguments) throws ReflectiveOperationException {
        for (Method m : MoleSecrets.class.getDeclaredMethods()) {
            if (m.getName().equals(name) && Modifier.isPublic(m.getModifiers())) {
                return ((Number) m.invoke(x, values(m.getParameterTypes(), arguments))).longValue();
            }
        }
        throw new NoSuchMethodException(name);
    }

    private static Object[] values(Class<?>[] types, String arguments) {
        Object[] all = new Object[types.length];
        String[] told = arguments.split(", ");
        for (int i = 0; i < types.length; i++) {
            if (types[i] == long.class) {
                all[i] = Long.decode(told[i]);
            } else {
                all[i] = Integer.decode(told[i]);
            }
        }
        return all;
    }

    /** The findings are told by the document's own names and numbers, in its order. */
    private static void findings(String readme) throws IOException {
        StringBuilder all = new StringBuilder();
        Matcher rows = FINDING.matcher(readme);
        int due = 0;
        while (rows.find()) {
            all.append(due == 0 ? "" : ", ").append(rows.group(1));
            c.due("status() of " + rows.group(1), Integer.parseInt(rows.group(2)), due);
            due++;
        }
        c.due("findings", due, 7);
        Path doc = Path.of("../shared/DOC.md");
        if (Files.isReadable(doc)) {
            c.due("the document says " + all, Files.readString(doc).contains(all + " (in longs, too)") ? 1 : 0, 1);
        }
    }
}

import java.lang.reflect.Method;
import java.lang.reflect.Modifier;
import java.nio.file.Files;
import java.nio.file.Path;
import java.util.ArrayList;
import java.util.List;
import java.util.TreeSet;
import java.util.regex.Matcher;
import java.util.regex.Pattern;
import java.util.stream.Collectors;
import java.util.stream.Stream;

/** README.md tells the class and its tests as they stand: its example, each call with its arguments, each test. */
public final class ReadmeTests {
    private final Due due = new Due();
    private final String page;

    private ReadmeTests(String page) {
        this.page = page;
    }

    public static void main(String[] args) throws Exception {
        ReadmeTests t = new ReadmeTests(Files.readString(Path.of("README.md")));
        t.example();
        t.calls();
        t.tests();
        t.due.end("ReadmeTests");
    }

    private void example() throws Exception {
        Matcher block = Pattern.compile("```java\n(.*?)```", Pattern.DOTALL).matcher(page);
        due.holds("an example", block.find());
        String[] lines = block.group(1).split("\n");
        due.holds("it begins with an object", lines[0].equals("ThoughtsDrip x = new ThoughtsDrip();"));
        Pattern call = Pattern.compile("x\\.(\\w+)\\(([^)]*)\\); +// .*: (-?\\d+)");
        ThoughtsDrip x = new ThoughtsDrip();
        for (int k = 1; k < lines.length; k++) {
            Matcher m = call.matcher(lines[k]);
            due.holds("a call with its answer: " + lines[k], m.matches());
            if (m.matches()) {
                due.is(lines[k], answer(x, m.group(1), m.group(2)), Long.parseLong(m.group(3)));
            }
        }
    }

    private static long answer(ThoughtsDrip x, String name, String told) throws Exception {
        String[] words = told.isEmpty() ? new String[0] : told.split(", ");
        for (Method m : face()) {
            if (m.getName().equals(name) && m.getParameterCount() == words.length) {
                Object[] arguments = new Object[words.length];
                for (int k = 0; k < words.length; k++) {
                    int v = words[k].charAt(0) == '\'' ? words[k].charAt(1) : Integer.parseInt(words[k]);
                    arguments[k] = m.getParameterTypes()[k] == long.class ? (Object) (long) v : (Object) v;
                }
                return ((Number) m.invoke(x, arguments)).longValue();
            }
        }
        throw new IllegalArgumentException("no such call: " + name);
    }

    private static List<Method> face() {
        List<Method> all = new ArrayList<>();
        for (Method m : ThoughtsDrip.class.getDeclaredMethods()) {
            if (Modifier.isPublic(m.getModifiers())) {
                all.add(m);
            }
        }
        return all;
    }

    /** Each call stands in one row of a table, with as many arguments as it takes; no other call does. */
    private void calls() {
        TreeSet<String> told = new TreeSet<>();
        Matcher row = Pattern.compile("(?m)^\\| (`[a-zA-Z]+\\(.*?) \\|").matcher(page);
        while (row.find()) {
            Matcher call = Pattern.compile("`(\\w+)\\(([^)]*)\\)`").matcher(row.group(1));
            while (call.find()) {
                int arguments = call.group(2).isEmpty() ? 0 : call.group(2).split(", ").length;
                due.holds(call.group(1) + " is told once", told.add(call.group(1) + " " + arguments));
            }
        }
        TreeSet<String> there = new TreeSet<>();
        for (Method m : face()) {
            there.add(m.getName() + " " + m.getParameterCount());
        }
        due.holds("calls told " + told + ", there are " + there, told.equals(there));
        for (String constant : new String[] {"`BAD` (-1)", "`NOT` (-2)", "`FULL` (-3)", "`STATE` (-5)", "`VOID`"}) {
            due.holds(constant, page.contains(constant));
        }
    }

    private void tests() throws Exception {
        TreeSet<String> there = new TreeSet<>();
        try (Stream<Path> files = Files.list(Path.of("src/test/java"))) {
            for (Path file : files.collect(Collectors.toList())) {
                String name = file.getFileName().toString();
                if (name.endsWith("Tests.java")) {
                    there.add(name.substring(0, name.length() - 5));
                }
            }
        }
        TreeSet<String> told = new TreeSet<>();
        Matcher name = Pattern.compile("`(\\w+Tests)`").matcher(page);
        while (name.find()) {
            told.add(name.group(1));
        }
        due.holds("tests told " + told + ", there are " + there, told.equals(there));
    }
}

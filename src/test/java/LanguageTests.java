import java.lang.reflect.Constructor;
import java.lang.reflect.Field;
import java.lang.reflect.Method;
import java.lang.reflect.Modifier;
import java.nio.charset.StandardCharsets;
import java.nio.file.Files;
import java.nio.file.Path;
import java.util.ArrayList;
import java.util.Arrays;
import java.util.HashMap;
import java.util.HashSet;
import java.util.List;
import java.util.Map;
import java.util.Set;
import java.util.TreeSet;
import java.util.regex.Matcher;
import java.util.regex.Pattern;

/** The class keeps to what can be looked at in ../shared/LANGUAGE.md, and bears the document's face and no other. */
public final class LanguageTests {
    private static final String FACE =
        "int person(int,int);int people(int,int,int);int mend(int,int,int);int of(int,int);int feed(int);int law();"
        + "int comes(int,int,int);int porter(int,int);int wet(int,int);int most(int,int,int);int caught(int,int);"
        + "int first(int);int from(int,int);int dry(int,int);int change(int,int,int);int who(int,int,int);"
        + "int thought(int,int,int,int);int rent(int,int);int swap(int);long odds(int,int,int);long mean(int,int,int);"
        + "int byTurns(int,int,int);int drawn(int,int,int);int hour();int moves(int,int);int awning(int);int wipe(int);"
        + "int led(int);int image();int back();int undo();int redo();int body(int);int act(int,int,int);int trace(int);"
        + "int keep(int,int);int row(int,int,int);int put(int,int,long);long element(int,int);"
        + "int shift(int,int,int,int,int);int taken(int,int);int count(int)";
    private static final Set<String> LIBRARY = new HashSet<>(Arrays.asList(
        "Math.max", "Math.min", "Integer.bitCount", "System.arraycopy"));
    private static final String[] FORBIDDEN = {
        "throw", "throws", "try", "catch", "finally", "synchronized", "assert", "import", "package", "protected", "native",
        "volatile", "var", "Object", "Thread", "Random", "equals", "hashCode", "toString", "goto", "strictfp", "transient",
    };

    private final Due due = new Due();

    public static void main(String[] args) throws Exception {
        LanguageTests t = new LanguageTests();
        String source = Files.readString(Path.of("src/main/java/ThoughtsDrip.java"), StandardCharsets.UTF_8);
        t.text(source);
        t.methods(bare(source));
        t.depth(bare(source));
        t.face();
        t.members(ThoughtsDrip.class);
        t.due.end("LanguageTests");
    }

    /** The source without comments, and with nothing in its signs and texts. */
    private static String bare(String source) {
        String s = Pattern.compile("/\\*.*?\\*/", Pattern.DOTALL).matcher(source).replaceAll("");
        s = s.replaceAll("//[^\n]*", "");
        s = s.replaceAll("'(\\\\.|[^'\\\\])'", "' '");
        return s.replaceAll("\"[^\"\n]*\"", "\"\"");
    }

    private void text(String source) {
        for (int k = 0; k < source.length(); k++) {
            if (source.charAt(k) > 126) {
                due.holds("a sign above 126 at place " + k, false);
            }
        }
        String s = bare(source);
        for (String word : FORBIDDEN) {
            due.holds("no " + word, !Pattern.compile("\\b" + word + "\\b").matcher(s).find());
        }
        for (String sign : new String[] {"->", "::", "@", "static {", "\"", "NaN"}) {
            due.holds("no " + sign, !s.contains(sign));
        }
        Matcher call = Pattern.compile("\\b([A-Z][a-z]\\w*\\.[a-z]\\w*)\\(").matcher(s);
        while (call.find()) {
            due.holds("library: " + call.group(1), LIBRARY.contains(call.group(1)) || own(call.group(1)));
        }
        // An object or array is made by the constructors alone: what stands behind = new is in a field or there.
        Matcher made = Pattern.compile("\\bnew \\w+").matcher(s);
        int many = 0;
        while (made.find()) {
            many++;
        }
        Matcher field = Pattern.compile("(?m)^        final \\w+\\[\\] \\w+ = new |(?:= |, )new \\w+\\(|= new Shelf\\[").matcher(s);
        int ahead = 0;
        while (field.find()) {
            ahead++;
        }
        due.is("makings in constructors and fields", ahead, many);
    }

    private static boolean own(String call) {
        String name = call.substring(0, call.indexOf('.'));
        for (Class<?> c : ThoughtsDrip.class.getDeclaredClasses()) {
            if (c.getSimpleName().equals(name)) {
                return true;
            }
        }
        return false;
    }

    private void methods(String s) {
        Matcher m = Pattern.compile("(?m)^( {4}| {8})(?:\\w+ )*(?:\\w+(?:\\[\\])? )?(\\w+)\\(([^)]*)\\) \\{\n").matcher(s);
        int seen = 0;
        while (m.find()) {
            seen++;
            int end = s.indexOf("\n" + m.group(1) + "}", m.end() - 1);
            int lines = s.substring(m.start(), end).split("\n").length + 1;
            due.holds(m.group(2) + " has " + lines + " lines", lines <= 60);
            int parameters = m.group(3).isEmpty() ? 0 : m.group(3).split(",").length;
            due.holds(m.group(2) + " takes " + parameters, parameters <= 7);
        }
        due.holds("methods seen: " + seen, seen > 100);
    }

    /** By names alone: methods of like names count as one, and a name comes once in a chain (recursion). */
    private void depth(String s) {
        Map<String, String> bodies = new HashMap<>();
        Matcher m = Pattern.compile("(?m)^( {4}| {8})(?:\\w+ )*(?:\\w+(?:\\[\\])? )(\\w+)\\([^)]*\\) \\{\n").matcher(s);
        while (m.find()) {
            String body = s.substring(m.end(), s.indexOf("\n" + m.group(1) + "}", m.end() - 1));
            bodies.merge(m.group(2), body, String::concat);
        }
        Map<String, Set<String>> calls = new HashMap<>();
        for (String name : bodies.keySet()) {
            calls.put(name, new TreeSet<>());
            Matcher call = Pattern.compile("\\b(\\w+)\\(").matcher(bodies.get(name));
            while (call.find()) {
                if (bodies.containsKey(call.group(1))) {
                    calls.get(name).add(call.group(1));
                }
            }
        }
        int deepest = 0;
        for (Method face : ThoughtsDrip.class.getDeclaredMethods()) {
            if (Modifier.isPublic(face.getModifiers())) {
                int deep = deepFrom(face.getName(), calls, new HashSet<>());
                deepest = Math.max(deepest, deep);
                due.holds(face.getName() + " goes " + deep + " deep", deep <= 8);
            }
        }
        due.holds("chains seen: " + deepest, deepest > 5);
    }

    private static int deepFrom(String name, Map<String, Set<String>> calls, Set<String> open) {
        if (!calls.containsKey(name) || !open.add(name)) {
            return 0;
        }
        int deepest = 0;
        for (String next : calls.get(name)) {
            deepest = Math.max(deepest, deepFrom(next, calls, open));
        }
        open.remove(name);
        return deepest + 1;
    }

    private static String shape(Method m) {
        List<String> parameters = new ArrayList<>();
        for (Class<?> p : m.getParameterTypes()) {
            parameters.add(p.getName());
        }
        return m.getReturnType().getName() + " " + m.getName() + "(" + String.join(",", parameters) + ")";
    }

    private void face() throws Exception {
        Class<?> c = ThoughtsDrip.class;
        due.holds("public and final", Modifier.isPublic(c.getModifiers()) && Modifier.isFinal(c.getModifiers()));
        TreeSet<String> methods = new TreeSet<>();
        for (Method m : c.getDeclaredMethods()) {
            if (!Modifier.isPrivate(m.getModifiers())) {
                methods.add(shape(m));
                due.holds(m.getName() + " is public, not static", m.getModifiers() == Modifier.PUBLIC);
            }
        }
        due.holds("the face: " + methods, methods.equals(new TreeSet<>(Arrays.asList(FACE.split(";")))));
        Constructor<?>[] constructors = c.getDeclaredConstructors();
        due.holds("one public constructor of nothing", constructors.length == 1
            && Modifier.isPublic(constructors[0].getModifiers()) && constructors[0].getParameterCount() == 0);
        TreeSet<String> constants = new TreeSet<>();
        for (Field f : c.getDeclaredFields()) {
            if (!Modifier.isPrivate(f.getModifiers())) {
                constants.add(f.getType() + " " + f.getName() + "=" + f.getInt(null));
            }
        }
        due.holds("the constants: " + constants, constants.equals(new TreeSet<>(
            Arrays.asList("int BAD=-1", "int NOT=-2", "int FULL=-3", "int STATE=-5", "int VOID=-2000000000"))));
        due.holds("classes inside", c.getDeclaredClasses().length + 1 <= 12);
        for (Class<?> inner : c.getDeclaredClasses()) {
            due.holds(inner + " is static and hidden", Modifier.isStatic(inner.getModifiers())
                && !Modifier.isPublic(inner.getModifiers()) && !Modifier.isProtected(inner.getModifiers()));
            members(inner);
        }
    }

    private void members(Class<?> c) {
        Set<String> publicNames = new HashSet<>();
        for (Method m : ThoughtsDrip.class.getDeclaredMethods()) {
            if (Modifier.isPublic(m.getModifiers())) {
                publicNames.add(m.getName());
            }
        }
        for (Method m : c.getDeclaredMethods()) {
            due.holds(c + ": " + m.getName(), Modifier.isPublic(m.getModifiers()) || !publicNames.contains(m.getName()));
        }
        int fields = 0;
        for (Field f : c.getDeclaredFields()) {
            due.holds(c + ": static " + f.getName() + " is final",
                !Modifier.isStatic(f.getModifiers()) || Modifier.isFinal(f.getModifiers()));
            fields += Modifier.isStatic(f.getModifiers()) ? 0 : 1;
        }
        due.holds(c + " has " + fields + " fields", fields <= 20);
    }
}

import java.io.IOException;
import java.lang.reflect.Constructor;
import java.lang.reflect.Field;
import java.lang.reflect.Method;
import java.lang.reflect.Modifier;
import java.nio.charset.StandardCharsets;
import java.nio.file.Files;
import java.nio.file.Path;
import java.util.ArrayList;
import java.util.Arrays;
import java.util.HashSet;
import java.util.List;
import java.util.Map;
import java.util.NoSuchElementException;
import java.util.Set;
import java.util.TreeMap;
import java.util.TreeSet;
import java.util.regex.Matcher;
import java.util.regex.Pattern;

/** The face of the class against the document's, and what of LANGUAGE.md can be seen without reading. */
public final class LanguageTest {
    private static final Path SOURCE = Path.of("src/main/java/LockLetters.java");
    private static final Path DOCUMENT = Path.of("../shared/DOC.md");
    private static final List<String> LIBRARY = List.of("Math.max", "Math.min", "Integer.bitCount", "Long.bitCount", "System.arraycopy");
    private static final List<String> RULED_OUT = List.of("->", "::", "synchronized", "assert ", "finally", "static {", "package ", "catch", "Exact(", "hashCode",
        "toString", "double", "float", "Random", "nanoTime", "currentTimeMillis", "Thread", "lambda", "getMessage", "instanceof");
    private static int wrong = 0;

    public static void main(String[] args) throws IOException {
        String source = Files.readString(SOURCE, StandardCharsets.ISO_8859_1);
        face();
        sections(source);
        insides(LockLetters.class, source);
        ruledOut(source);
        methods(source);
        depth(source);
        System.out.println("language: " + wrong + " wrong");
        if (wrong != 0) {
            System.exit(1);
        }
    }

    private static void due(boolean good, String what) {
        if (!good) {
            wrong++;
            System.out.println(what);
        }
    }

    private static void face() throws IOException {
        Set<String> told = new TreeSet<>();
        String document = Files.readString(DOCUMENT, StandardCharsets.UTF_8);
        Matcher m = Pattern.compile("(?m)^    public (int|long|boolean) (\\w+)\\(([^)]*)\\)( throws NoSuchElementException)?;").matcher(document);
        while (m.find()) {
            told.add(m.group(1) + " " + m.group(2) + " " + (m.group(3).isEmpty() ? 0 : m.group(3).split(",").length) + (m.group(4) == null ? "" : " throws"));
        }
        Set<String> made = new TreeSet<>();
        for (Method method : LockLetters.class.getDeclaredMethods()) {
            if (Modifier.isPublic(method.getModifiers())) {
                String thrown = Arrays.equals(method.getExceptionTypes(), new Class<?>[] {NoSuchElementException.class}) ? " throws" : "";
                made.add(method.getReturnType() + " " + method.getName() + " " + method.getParameterCount() + thrown);
            } else {
                due(Modifier.isPrivate(method.getModifiers()), "not private: " + method);
            }
        }
        due(told.size() == 47, "calls that the document tells: " + told.size());
        due(told.equals(made), "the face is " + made + ", due is " + told);
        due(Modifier.isPublic(LockLetters.class.getModifiers()) && Modifier.isFinal(LockLetters.class.getModifiers()), "the class is public and final");
        Constructor<?>[] makers = LockLetters.class.getDeclaredConstructors();
        due(makers.length == 1 && Modifier.isPublic(makers[0].getModifiers()) && makers[0].getParameterCount() == 0, "one constructor");
        for (Field field : LockLetters.class.getDeclaredFields()) {
            boolean constant = field.getName().equals("NONE");
            due(constant ? Modifier.isPublic(field.getModifiers()) : Modifier.isPrivate(field.getModifiers()), "field: " + field);
        }
    }

    /** What the interface says ahead of calls stands ahead of the first of them, and they follow one another in this order. */
    private static void sections(String source) throws IOException {
        Matcher m = Pattern.compile("(?m)^Ahead of the calls (.*) the interface says: (---- .*)\\.$").matcher(Files.readString(DOCUMENT, StandardCharsets.UTF_8));
        int at = 0;
        int found = 0;
        while (m.find()) {
            found++;
            at = source.indexOf("// " + m.group(2) + "\n", Math.max(0, at));
            due(at >= 0, "does not say ahead of calls: " + m.group(2));
            for (String call : m.group(1).replace("`", "").split(", ")) {
                at = at < 0 ? at : source.indexOf(" " + call + "(", at);
                due(at >= 0, "not behind " + m.group(2) + ": " + call);
            }
        }
        due(found == 11, "what the interface says ahead of calls: " + found);
    }

    private static void insides(Class<?> outer, String source) {
        Set<String> names = new HashSet<>();
        for (Method method : outer.getDeclaredMethods()) {
            if (Modifier.isPublic(method.getModifiers())) {
                names.add(method.getName());
            }
        }
        List<Class<?>> all = new ArrayList<>(Arrays.asList(outer.getDeclaredClasses()));
        due(all.size() < 12, "classes: " + all.size());
        for (Class<?> inside : all) {
            due(Modifier.isPrivate(inside.getModifiers()) && Modifier.isStatic(inside.getModifiers()), "class: " + inside);
            for (Method method : inside.getDeclaredMethods()) {
                due(!names.contains(method.getName()), "bears the name of a public one: " + method);
            }
        }
        all.add(outer);
        for (Class<?> c : all) {
            int own = 0;
            for (Field field : c.getDeclaredFields()) {
                boolean fixed = Modifier.isStatic(field.getModifiers());
                due(!fixed || Modifier.isFinal(field.getModifiers()), "static, not final: " + field);
                own += fixed ? 0 : 1;
            }
            due(own <= 20, "fields of " + c + ": " + own);
        }
    }

    private static void ruledOut(String source) {
        for (String sign : RULED_OUT) {
            due(!source.contains(sign), "stands in the source: " + sign);
        }
        for (char c : source.toCharArray()) {
            due(c == '\n' || c >= 32 && c < 127, "sign " + (int) c);
        }
        Matcher imports = Pattern.compile("(?m)^import (.*);").matcher(source);
        while (imports.find()) {
            due(imports.group(1).equals("java.util.NoSuchElementException"), "import " + imports.group(1));
        }
        Matcher calls = Pattern.compile("\\b(Math|Integer|Long|System|Arrays|String|Character|Boolean)\\.\\w+").matcher(source);
        while (calls.find()) {
            due(LIBRARY.contains(calls.group()), "library: " + calls.group());
        }
    }

    private static void methods(String source) {
        String[] lines = source.split("\n");
        String name = null;
        int start = 0;
        for (int i = 0; i < lines.length; i++) {
            Matcher m = Pattern.compile("^ {4,8}(?:(?:public|private|static|final) )*[\\w\\[\\]]+ ?(\\w*)\\((.*)\\).* \\{$").matcher(lines[i]);
            if (m.matches()) {
                name = m.group(1);
                start = i;
                due(m.group(2).split(",").length <= 7, "parameters of " + name);
            } else if (name != null && lines[i].matches(" {4,8}\\}")) {
                due(i - start <= 60, "lines of " + name + ": " + (i - start));
                name = null;
            }
        }
    }

    /** Calls go at most eight deep and none comes back to itself; a call of another object may be of any class inside with such a method. */
    private static void depth(String source) {
        Map<String, Set<String>> calls = new TreeMap<>();
        Map<String, String> bodies = bodies(source);
        for (Map.Entry<String, String> body : bodies.entrySet()) {
            String own = body.getKey().replaceFirst("\\..*", "");
            Set<String> called = new TreeSet<>();
            Matcher m = Pattern.compile("(?:\\b(\\w+)\\.)?\\b(\\w+)\\(").matcher(body.getValue());
            while (m.find()) {
                String of = m.group(1) == null ? own : m.group(1);
                for (String method : bodies.keySet()) {
                    boolean named = method.endsWith("." + m.group(2));
                    boolean ofAnother = m.group(1) != null && Character.isLowerCase(of.charAt(0)) && !method.startsWith("LockLetters.");
                    if (named && (ofAnother || method.startsWith(of + "."))) {
                        called.add(method);
                    }
                }
            }
            calls.put(body.getKey(), called);
        }
        due(calls.size() > 100, "methods that were found: " + calls.size());
        int deepest = 0;
        for (String method : calls.keySet()) {
            deepest = Math.max(deepest, deepest(method, calls, 0));
        }
        due(deepest >= 7 && deepest <= 8, "calls go " + deepest + " deep");
    }

    private static int deepest(String method, Map<String, Set<String>> calls, int open) {
        int most = 0;
        for (String called : open > 20 ? Set.<String>of() : calls.get(method)) {
            most = Math.max(most, deepest(called, calls, open + 1));
        }
        return most + 1;
    }

    /** Class and method, and what stands between its brackets. */
    private static Map<String, String> bodies(String source) {
        Map<String, String> bodies = new TreeMap<>();
        String outer = "LockLetters";
        String method = null;
        StringBuilder body = new StringBuilder();
        for (String line : source.split("\n")) {
            Matcher inside = Pattern.compile("^    private static final class (\\w+) \\{$").matcher(line);
            Matcher head = Pattern.compile("^ {4,8}(?:(?:public|private|static|final) )*[\\w\\[\\]]+ (\\w+)\\(.*\\).* \\{$").matcher(line);
            if (inside.matches()) {
                outer = inside.group(1);
            } else if (method == null && head.matches()) {
                method = outer + "." + head.group(1);
                body.setLength(0);
            } else if (method != null && line.matches(outer.equals("LockLetters") ? " {4}\\}" : " {8}\\}")) {
                bodies.put(method, body.toString());
                method = null;
            } else {
                body.append(line).append('\n');
            }
        }
        return bodies;
    }
}

import java.io.IOException;
import java.lang.reflect.Constructor;
import java.lang.reflect.Field;
import java.lang.reflect.Method;
import java.lang.reflect.Modifier;
import java.nio.charset.StandardCharsets;
import java.nio.file.Files;
import java.nio.file.Path;
import java.util.ArrayList;
import java.util.Arrays;
import java.util.HashSet;
import java.util.List;
import java.util.Set;
import java.util.TreeSet;
import java.util.regex.Matcher;
import java.util.regex.Pattern;

/** The face of the class against the document's, and what of LANGUAGE.md can be seen without reading. */
public final class LanguageTest {
    private static final Path SOURCE = Path.of("src/main/java/LockLetters.java");
    private static final Path DOCUMENT = Path.of("../shared/DOC.md");
    private static final List<String> LIBRARY = List.of("Math.max", "Math.min", "Integer.bitCount", "Long.bitCount", "System.arraycopy");
    private static final List<String> RULED_OUT = List.of("->", "::", "synchronized", "assert ", "finally", "static {", "package ", "catch", "Exact(", "hashCode",
        "toString", "double", "float", "Random", "nanoTime", "currentTimeMillis", "Thread", "lambda", "getMessage", "instanceof");
    private static int wrong = 0;

    public static void main(String[] args) throws IOException {
        String source = Files.readString(SOURCE, StandardCharsets.ISO_8859_1);
        face();
        insides(LockLetters.class, source);
        ruledOut(source);
        methods(source);
        System.out.println("language: " + wrong + " wrong");
        if (wrong != 0) {
            System.exit(1);
        }
    }

    private static void due(boolean good, String what) {
        if (!good) {
            wrong++;
            System.out.println(what);
        }
    }

    private static void face() throws IOException {
        Set<String> told = new TreeSet<>();
        String document = Files.readString(DOCUMENT, StandardCharsets.UTF_8);
        Matcher m = Pattern.compile("(?m)^    public (int|long|boolean) (\\w+)\\(([^)]*)\\)").matcher(document);
        while (m.find()) {
            told.add(m.group(1) + " " + m.group(2) + " " + (m.group(3).isEmpty() ? 0 : m.group(3).split(",").length));
        }
        Set<String> made = new TreeSet<>();
        for (Method method : LockLetters.class.getDeclaredMethods()) {
            if (Modifier.isPublic(method.getModifiers())) {
                made.add(method.getReturnType() + " " + method.getName() + " " + method.getParameterCount());
            } else {
                due(Modifier.isPrivate(method.getModifiers()), "not private: " + method);
            }
        }
        due(told.size() == 47, "calls that the document tells: " + told.size());
        due(told.equals(made), "the face is " + made + ", due is " + told);
        due(Modifier.isPublic(LockLetters.class.getModifiers()) && Modifier.isFinal(LockLetters.class.getModifiers()), "the class is public and final");
        Constructor<?>[] makers = LockLetters.class.getDeclaredConstructors();
        due(makers.length == 1 && Modifier.isPublic(makers[0].getModifiers()) && makers[0].getParameterCount() == 0, "one constructor");
        for (Field field : LockLetters.class.getDeclaredFields()) {
            boolean constant = field.getName().equals("NONE");
            due(constant ? Modifier.isPublic(field.getModifiers()) : Modifier.isPrivate(field.getModifiers()), "field: " + field);
        }
    }

    private static void insides(Class<?> outer, String source) {
        Set<String> names = new HashSet<>();
        for (Method method : outer.getDeclaredMethods()) {
            if (Modifier.isPublic(method.getModifiers())) {
                names.add(method.getName());
            }
        }
        List<Class<?>> all = new ArrayList<>(Arrays.asList(outer.getDeclaredClasses()));
        due(all.size() < 12, "classes: " + all.size());
        for (Class<?> inside : all) {
            due(Modifier.isPrivate(inside.getModifiers()) && Modifier.isStatic(inside.getModifiers()), "class: " + inside);
            for (Method method : inside.getDeclaredMethods()) {
                due(!names.contains(method.getName()), "bears the name of a public one: " + method);
            }
        }
        all.add(outer);
        for (Class<?> c : all) {
            int own = 0;
            for (Field field : c.getDeclaredFields()) {
                boolean fixed = Modifier.isStatic(field.getModifiers());
                due(!fixed || Modifier.isFinal(field.getModifiers()), "static, not final: " + field);
                own += fixed ? 0 : 1;
            }
            due(own <= 20, "fields of " + c + ": " + own);
        }
    }

    private static void ruledOut(String source) {
        for (String sign : RULED_OUT) {
            due(!source.contains(sign), "stands in the source: " + sign);
        }
        for (char c : source.toCharArray()) {
            due(c == '\n' || c >= 32 && c < 127, "sign " + (int) c);
        }
        Matcher imports = Pattern.compile("(?m)^import (.*);").matcher(source);
        while (imports.find()) {
            due(imports.group(1).equals("java.util.NoSuchElementException"), "import " + imports.group(1));
        }
        Matcher calls = Pattern.compile("\\b(Math|Integer|Long|System|Arrays|String|Character|Boolean)\\.\\w+").matcher(source);
        while (calls.find()) {
            due(LIBRARY.contains(calls.group()), "library: " + calls.group());
        }
    }

    private static void methods(String source) {
        String[] lines = source.split("\n");
        String name = null;
        int start = 0;
        for (int i = 0; i < lines.length; i++) {
            Matcher m = Pattern.compile("^ {4,8}(?:(?:public|private|static|final) )*[\\w\\[\\]]+ ?(\\w*)\\((.*)\\).* \\{$").matcher(lines[i]);
            if (m.matches()) {
                name = m.group(1);
                start = i;
                due(m.group(2).split(",").length <= 7, "parameters of " + name);
            } else if (name != null && lines[i].matches(" {4,8}\\}")) {
                due(i - start <= 60, "lines of " + name + ": " + (i - start));
                name = null;
            }
        }
    }
}

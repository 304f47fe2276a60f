import java.io.IOException;
import java.lang.reflect.Constructor;
import java.lang.reflect.Field;
import java.lang.reflect.Method;
import java.lang.reflect.Modifier;
import java.nio.file.Files;
import java.nio.file.Path;
import java.util.ArrayList;
import java.util.Arrays;
import java.util.List;
import java.util.Map;
import java.util.TreeMap;
import java.util.TreeSet;
import java.util.regex.Matcher;
import java.util.regex.Pattern;

/** What of the rules of LANGUAGE.md can be seen from the class and from its text. Runs in the project's folder. */
public final class LanguageTest {
    private static final String[] FACE = {
        "int ask(int) throws IllegalArgumentException", "int atom(int) throws NoSuchElementException",
        "int axiom(int,int) throws NoSuchElementException,IllegalArgumentException",
        "boolean below(int,int) throws NoSuchElementException", "int common(int,int) throws NoSuchElementException,IllegalStateException",
        "long depends(int) throws NoSuchElementException", "long enough(int,int) throws NoSuchElementException", "int fault()",
        "int feed(int,int,int,int,int)", "int letter(int,int,int) throws NoSuchElementException",
        "int likeness(int,int,int) throws NoSuchElementException,IllegalArgumentException",
        "boolean link(int,int,int) throws NoSuchElementException", "long model(int) throws IllegalArgumentException",
        "long module(int,int,int) throws IllegalArgumentException", "int named(int) throws NoSuchElementException",
        "long needed(int,int) throws NoSuchElementException", "int node(int) throws NoSuchElementException",
        "int nodeOf(int,int) throws NoSuchElementException,IllegalArgumentException", "int nothing()",
        "int of(int,int) throws IllegalArgumentException", "int part(int,int) throws NoSuchElementException,IllegalArgumentException",
        "long print()", "long reason(int,int,int) throws NoSuchElementException", "long repair(int,int) throws NoSuchElementException",
        "int status(int)", "int text(int) throws IllegalArgumentException", "int told(int) throws IllegalArgumentException",
        "int turn(int) throws NoSuchElementException", "int under(int) throws NoSuchElementException", "int undo()",
        "int when(int,int) throws NoSuchElementException",
        "int why(int,int,int) throws NoSuchElementException,IllegalArgumentException"};

    private static final String[] BANNED = {"->", "::", "synchronized", "assert ", "finally", "try ", "catch", "getMessage", "hashCode",
        "toString", ".equals", "Exact(", "Math.random", "System.out", "nanoTime", "currentTime", "instanceof", "volatile", "transient",
        "static {", "package ", "double", "float", "protected", "null"};

    private static int wrong = 0;

    private static void need(boolean so, String what) {
        if (!so) {
            wrong++;
            System.out.println("not kept: " + what);
        }
    }

    private static String list(Class<?>[] types) {
        List<String> names = new ArrayList<>();
        for (Class<?> type : types) {
            names.add(type.getSimpleName());
        }
        return String.join(",", names);
    }

    private static void face() throws IOException {
        Class<?> c = LightClassifier.class;
        need(Modifier.isPublic(c.getModifiers()) && Modifier.isFinal(c.getModifiers()), "the class is public and final");
        TreeSet<String> seen = new TreeSet<>();
        TreeSet<String> names = new TreeSet<>();
        for (Method m : c.getDeclaredMethods()) {
            if (Modifier.isPublic(m.getModifiers())) {
                String thrown = list(m.getExceptionTypes());
                seen.add(m.getReturnType() + " " + m.getName() + "(" + list(m.getParameterTypes()) + ")" + (thrown.isEmpty() ? "" : " throws " + thrown));
                names.add(m.getName());
            } else {
                need(Modifier.isPrivate(m.getModifiers()), m.getName() + " is private");
            }
        }
        need(seen.equals(new TreeSet<>(Arrays.asList(FACE))), "the face: " + seen);
        need(seen.equals(faceOfDocument()), "the face, as the document writes it: " + seen);
        for (Constructor<?> k : c.getDeclaredConstructors()) {
            need(Modifier.isPublic(k.getModifiers()) && k.getParameterCount() == 0, "one public constructor");
        }
        for (Field f : c.getDeclaredFields()) {
            need(Modifier.isPrivate(f.getModifiers()) || f.getName().equals("NONE"), f.getName() + " is private");
        }
        fieldsOf(c);
        for (Class<?> inner : c.getDeclaredClasses()) {
            need(Modifier.isStatic(inner.getModifiers()), inner + " is static");
            fieldsOf(inner);
            for (Method m : inner.getDeclaredMethods()) {
                need(!names.contains(m.getName()), m.getName() + " of " + inner + " bears a public name");
                need(m.getParameterCount() <= 7, m.getName() + " takes seven at most");
            }
        }
        need(c.getDeclaredClasses().length <= 12, "some twelve classes");
    }

    private static void fieldsOf(Class<?> c) {
        int fields = 0;
        for (Field f : c.getDeclaredFields()) {
            boolean fixed = Modifier.isStatic(f.getModifiers());
            fields += fixed ? 0 : 1;
            need(!fixed || Modifier.isFinal(f.getModifiers()) && (f.getType().isPrimitive() || f.getType() == String.class), f + " is a constant");
        }
        need(fields <= 20, "some twenty fields of " + c);
    }

    /** The methods of the document's own block of Java, written as FACE is. */
    private static TreeSet<String> faceOfDocument() throws IOException {
        Path path = Path.of("../shared/DOC.md");
        if (!Files.isReadable(path)) {
            System.out.println("no document at " + path + ": the face is not compared with it");
            return new TreeSet<>(Arrays.asList(FACE));
        }
        TreeSet<String> methods = new TreeSet<>();
        Matcher m = Pattern.compile("(?m)^    public (\\w+ \\w+)\\(([^)]*)\\)(.*);$").matcher(Files.readString(path));
        while (m.find()) {
            String types = m.group(2).replaceAll("(\\w+) \\w+", "$1").replace(", ", ",");
            methods.add(m.group(1) + "(" + types + ")" + m.group(3).replace(", ", ","));
        }
        return methods;
    }

    private static String withoutComments(String source) {
        return source.replaceAll("(?s)/\\*.*?\\*/", "").replaceAll("//[^\n]*", "");
    }

    private static void words(String code) {
        for (String banned : BANNED) {
            need(!code.contains(banned), "no '" + banned + "'");
        }
        Matcher imports = Pattern.compile("import ([\\w.]+);").matcher(code);
        while (imports.find()) {
            need(imports.group(1).equals("java.util.Arrays") || imports.group(1).equals("java.util.NoSuchElementException"), "import " + imports.group(1));
        }
        for (String line : code.split("\n")) {
            boolean makes = line.contains("new ");
            boolean known = line.contains("throw new ") || line.matches("\\s*(private |final |static )*[\\w\\[\\]]+ \\w+ = new .*;");
            need(!makes || known, "objects are made by fields alone: " + line);
            need(line.length() <= 130, "a line of over 130: " + line);
        }
    }

    /** The body of each method and constructor, by its class and name. */
    private static Map<String, String> bodies(String code) {
        Pattern type = Pattern.compile("^(public|    private static) final class (\\w+) \\{$");
        Pattern head = Pattern.compile("^( {4}| {8})(?:public |private |static |final )*(?:[\\w\\[\\]]+ )?(\\w+)\\(.*\\{$");
        Map<String, String> all = new TreeMap<>();
        String[] lines = code.split("\n");
        String within = "";
        for (int i = 0; i < lines.length; i++) {
            Matcher t = type.matcher(lines[i]);
            Matcher m = head.matcher(lines[i]);
            if (t.matches()) {
                within = t.group(2);
            } else if (m.matches()) {
                int end = i;
                while (end < lines.length && !lines[end].equals(m.group(1) + "}")) {
                    end++;
                }
                need(end - i < 60, "a method of over 60 lines: " + lines[i]);
                String body = String.join("\n", Arrays.copyOfRange(lines, i + 1, end));
                need(all.put(within + "." + m.group(2), body) == null, "two methods of one name: " + lines[i]);
                i = end;
            }
        }
        need(all.size() > 100, "the methods are found in the text: " + all.size());
        return all;
    }

    /** Rule 11: calls that are no recursion go at most eight deep. */
    private static void depths(Map<String, String> bodies) {
        Map<String, TreeSet<String>> calls = new TreeMap<>();
        Pattern call = Pattern.compile("(\\.)?\\b(\\w+)\\(");
        for (String method : bodies.keySet()) {
            TreeSet<String> called = new TreeSet<>();
            String own = method.substring(0, method.indexOf('.'));
            Matcher m = call.matcher(bodies.get(method));
            while (m.find()) {
                for (String other : bodies.keySet()) {
                    boolean inOwn = other.startsWith(own + ".");
                    if (other.endsWith("." + m.group(2)) && (m.group(1) != null) != inOwn) {
                        called.add(other);
                    }
                }
            }
            calls.put(method, called);
        }
        int most = 0;
        for (String method : bodies.keySet()) {
            int depth = depth(calls, method, new TreeSet<>());
            need(depth <= 8, depth + " calls deep: " + method);
            most = Math.max(most, depth);
        }
        need(most > 5, "the calls are found in the text: " + most);
    }

    private static int depth(Map<String, TreeSet<String>> calls, String method, TreeSet<String> open) {
        if (!open.add(method)) {
            return 0;
        }
        int most = 0;
        for (String called : calls.get(method)) {
            most = Math.max(most, depth(calls, called, open));
        }
        open.remove(method);
        return most + 1;
    }

    public static void main(String[] args) throws Exception {
        face();
        String source = Files.readString(Path.of("src/main/java/LightClassifier.java"));
        String code = withoutComments(source);
        words(code);
        depths(bodies(code));
        System.out.println("rules of the language not kept: " + wrong);
        if (wrong != 0) {
            System.exit(1);
        }
    }
}

import java.lang.reflect.Constructor;
import java.lang.reflect.Field;
import java.lang.reflect.Method;
import java.lang.reflect.Modifier;
import java.nio.file.Files;
import java.nio.file.Path;
import java.util.ArrayList;
import java.util.List;
import java.util.Set;
import java.util.TreeSet;
import java.util.regex.Matcher;
import java.util.regex.Pattern;
import java.util.stream.Stream;

/** What of LANGUAGE.md can be told by looking at the source and at the compiled face. */
public final class SourceTest {
    private static final Set<String> FACE = new TreeSet<>(List.of(
            "post", "person", "years", "teach", "bar", "told", "feed", "text", "force", "fill", "few", "holds", "worst",
            "lessons", "ring", "sure", "done", "even", "pay", "first", "judge", "image", "back", "count", "sheet", "cell",
            "copy", "people", "taken"));
    /** The calls as the document's public face writes them. */
    private static final String DOCUMENT = """
            int post(int must, int value)
            int person(int kind, int rest)
            int years(int n)
            int teach(int person, int post)
            int bar(int person, int post, int is)
            int told(int person, int post, int what)
            int feed(int n, long bytes)
            int text()
            int force(int text)
            int fill(int away, int post)
            int few(int away)
            int holds(int many)
            int worst(int many, int what)
            int lessons(int many, int what)
            int ring()
            long sure(int part)
            int done(int away)
            int even()
            int pay(int person)
            int first()
            int judge(int away, int sheet)
            int image()
            int back()
            int count(int what)
            int sheet(int sheet, int sort, int n)
            int cell(int sheet, int i, int v)
            int copy(int sheet, int i, int other, int j, int n)
            int people(int sheet, int sort, int from, int n)
            int taken(int person, int k)
            """;
    private static final List<String> wrong = new ArrayList<>();

    private static void hasNot(String source, String pattern) {
        Matcher m = Pattern.compile(pattern).matcher(source);
        if (m.find()) {
            wrong.add("the source has " + m.group());
        }
    }

    private static void words(String source) {
        for (String word : List.of("throw", "throws", "try", "catch", "finally", "synchronized", "assert", "volatile", "native")) {
            hasNot(source, "\\b" + word + "\\b");
        }
        hasNot(source, "->|::");
        hasNot(source, "\\w+Exact\\b");
        hasNot(source, "\\bstatic\\s*\\{");
        Matcher imports = Pattern.compile("(?m)^import (.*);").matcher(source);
        while (imports.find()) {
            if (!imports.group(1).equals("java.util.Arrays")) {
                wrong.add("the source imports " + imports.group(1));
            }
        }
        Matcher library = Pattern.compile("\\b(Math|Integer|Long|Arrays|System)\\.(\\w+)").matcher(source);
        Set<String> allowed = Set.of("Math.abs", "Math.max", "Math.min", "Integer.bitCount", "Arrays.fill", "System.arraycopy");
        while (library.find()) {
            if (!allowed.contains(library.group())) {
                wrong.add("the source calls " + library.group());
            }
        }
    }

    private static void lengths(List<String> lines) {
        int start = -1;
        String indent = "";
        for (int i = 0; i < lines.size(); i++) {
            String line = lines.get(i);
            Matcher m = Pattern.compile("^( {4}| {8})\\S.*\\) \\{$").matcher(line);
            if (start < 0 && m.find()) {
                start = i;
                indent = m.group(1);
            } else if (start >= 0 && line.equals(indent + "}")) {
                if (i - start >= 60) {
                    wrong.add("long method at line " + (start + 1));
                }
                start = -1;
            }
        }
    }

    private static void face() {
        Set<String> seen = new TreeSet<>();
        for (Method m : PostsFilled.class.getDeclaredMethods()) {
            if (Modifier.isPublic(m.getModifiers())) {
                seen.add(m.getName());
            } else if (!Modifier.isPrivate(m.getModifiers()) || FACE.contains(m.getName())) {
                wrong.add("method " + m);
            }
        }
        if (!seen.equals(FACE)) {
            wrong.add("the face is " + seen);
        }
        Class<?>[] inside = PostsFilled.class.getDeclaredClasses();
        if (inside.length > 11) {
            wrong.add(inside.length + " classes inside");
        }
        for (Class<?> c : inside) {
            if (!Modifier.isStatic(c.getModifiers())) {
                wrong.add("not static: " + c);
            }
            for (Method m : c.getDeclaredMethods()) {
                if (FACE.contains(m.getName()) || m.getParameterCount() > 7) {
                    wrong.add("method " + m);
                }
            }
            long fields = List.of(c.getDeclaredFields()).stream().filter(f -> !Modifier.isStatic(f.getModifiers())).count();
            if (fields > 20) {
                wrong.add(fields + " fields of " + c);
            }
        }
    }

    private static String signature(String type, String name, List<String> types) {
        return type + " " + name + "(" + String.join(", ", types) + ")";
    }

    /** The document's calls, by their types; nothing else but its constants is to be seen. */
    private static void faceOfTheDocument() {
        Set<String> due = new TreeSet<>();
        Matcher m = Pattern.compile("(?m)^(int|long) (\\w+)\\((.*)\\)$").matcher(DOCUMENT);
        while (m.find()) {
            List<String> types = new ArrayList<>();
            for (String parameter : m.group(3).isEmpty() ? new String[0] : m.group(3).split(", ")) {
                types.add(parameter.substring(0, parameter.indexOf(' ')));
            }
            due.add(signature(m.group(1), m.group(2), types));
        }
        Set<String> seen = new TreeSet<>();
        for (Method method : PostsFilled.class.getDeclaredMethods()) {
            if (Modifier.isPublic(method.getModifiers()) && !Modifier.isStatic(method.getModifiers())) {
                seen.add(signature(method.getReturnType().getName(), method.getName(),
                        Stream.of(method.getParameterTypes()).map(Class::getName).toList()));
            }
        }
        if (due.size() != FACE.size() || !seen.equals(due)) {
            wrong.add("the document's face is " + due + ", the class has " + seen);
        }
        constantsAndConstructor();
    }

    private static void constantsAndConstructor() {
        Set<String> constants = new TreeSet<>();
        int own = 0;
        for (Field field : PostsFilled.class.getDeclaredFields()) {
            int is = field.getModifiers();
            if (Modifier.isPublic(is)) {
                constants.add(Modifier.toString(is) + " " + field.getType() + " " + field.getName());
            } else if (!Modifier.isPrivate(is) || (Modifier.isStatic(is) && !Modifier.isFinal(is))) {
                wrong.add("field " + field);
            }
            own += Modifier.isStatic(is) ? 0 : 1;
        }
        if (!constants.equals(Set.of("public static final int NONE", "public static final int BAD",
                "public static final int STATE", "public static final int FULL", "public static final long NO"))) {
            wrong.add("the constants are " + constants);
        }
        if (own > 20) {
            wrong.add(own + " fields of the class");
        }
        Constructor<?>[] makers = PostsFilled.class.getDeclaredConstructors();
        if (makers.length != 1 || makers[0].getParameterCount() != 0 || !Modifier.isPublic(makers[0].getModifiers())) {
            wrong.add("the constructors are " + List.of(makers));
        }
        if (!Modifier.isFinal(PostsFilled.class.getModifiers())) {
            wrong.add("the class isn't final");
        }
    }

    public static void main(String[] args) throws Exception {
        Path path = Path.of("src/main/java/PostsFilled.java");
        String source = Files.readString(path);
        String code = source.replaceAll("(?s)/\\*.*?\\*/", "").replaceAll("//.*", "").replaceAll("\"[^\"]*\"", "\"\"");
        words(code);
        lengths(source.lines().toList());
        face();
        faceOfTheDocument();
        wrong.forEach(w -> System.out.println("SourceTest: " + w));
        System.out.println("SourceTest: " + wrong.size() + " faults");
        if (!wrong.isEmpty()) {
            System.exit(1);
        }
    }
}

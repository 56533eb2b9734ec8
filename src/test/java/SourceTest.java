import java.lang.reflect.Method;
import java.lang.reflect.Modifier;
import java.nio.file.Files;
import java.nio.file.Path;
import java.util.ArrayList;
import java.util.List;
import java.util.Set;
import java.util.TreeSet;
import java.util.regex.Matcher;
import java.util.regex.Pattern;

/** What of LANGUAGE.md can be told by looking at the source and at the compiled face. */
public final class SourceTest {
    private static final Set<String> FACE = new TreeSet<>(List.of(
            "post", "person", "years", "teach", "bar", "told", "feed", "text", "force", "fill", "few", "holds", "worst",
            "lessons", "ring", "sure", "done", "even", "pay", "first", "judge", "image", "back", "count", "sheet", "cell",
            "copy", "people", "taken"));
    private static final List<String> wrong = new ArrayList<>();

    private static void hasNot(String source, String pattern) {
        Matcher m = Pattern.compile(pattern).matcher(source);
        if (m.find()) {
            wrong.add("the source has " + m.group());
        }
    }

    private static void words(String source) {
        for (String word : List.of("throw", "throws", "try", "catch", "finally", "synchronized", "assert", "volatile", "native")) {
            hasNot(source, "\\b" + word + "\\b");
        }
        hasNot(source, "->|::");
        hasNot(source, "\\w+Exact\\b");
        hasNot(source, "\\bstatic\\s*\\{");
        Matcher imports = Pattern.compile("(?m)^import (.*);").matcher(source);
        while (imports.find()) {
            if (!imports.group(1).equals("java.util.Arrays")) {
                wrong.add("the source imports " + imports.group(1));
            }
        }
        Matcher library = Pattern.compile("\\b(Math|Integer|Long|Arrays|System)\\.(\\w+)").matcher(source);
        Set<String> allowed = Set.of("Math.abs", "Math.max", "Math.min", "Integer.bitCount", "Arrays.fill", "System.arraycopy");
        while (library.find()) {
            if (!allowed.contains(library.group())) {
                wrong.add("the source calls " + library.group());
            }
        }
    }

    private static void lengths(List<String> lines) {
        int start = -1;
        String indent = "";
        for (int i = 0; i < lines.size(); i++) {
            String line = lines.get(i);
            Matcher m = Pattern.compile("^( {4}| {8})\\S.*\\) \\{$").matcher(line);
            if (start < 0 && m.find()) {
                start = i;
                indent = m.group(1);
            } else if (start >= 0 && line.equals(indent + "}")) {
                if (i - start >= 60) {
                    wrong.add("long method at line " + (start + 1));
                }
                start = -1;
            }
        }
    }

    private static void face() {
        Set<String> seen = new TreeSet<>();
        for (Method m : PostsFilled.class.getDeclaredMethods()) {
            if (Modifier.isPublic(m.getModifiers())) {
                seen.add(m.getName());
            } else if (!Modifier.isPrivate(m.getModifiers()) || FACE.contains(m.getName())) {
                wrong.add("method " + m);
            }
        }
        if (!seen.equals(FACE)) {
            wrong.add("the face is " + seen);
        }
        Class<?>[] inside = PostsFilled.class.getDeclaredClasses();
        if (inside.length > 11) {
            wrong.add(inside.length + " classes inside");
        }
        for (Class<?> c : inside) {
            if (!Modifier.isStatic(c.getModifiers())) {
                wrong.add("not static: " + c);
            }
            for (Method m : c.getDeclaredMethods()) {
                if (FACE.contains(m.getName()) || m.getParameterCount() > 7) {
                    wrong.add("method " + m);
                }
            }
            long fields = List.of(c.getDeclaredFields()).stream().filter(f -> !Modifier.isStatic(f.getModifiers())).count();
            if (fields > 20) {
                wrong.add(fields + " fields of " + c);
            }
        }
    }

    public static void main(String[] args) throws Exception {
        Path path = Path.of("src/main/java/PostsFilled.java");
        String source = Files.readString(path);
        String code = source.replaceAll("(?s)/\\*.*?\\*/", "").replaceAll("//.*", "").replaceAll("\"[^\"]*\"", "\"\"");
        words(code);
        lengths(source.lines().toList());
        face();
        wrong.forEach(w -> System.out.println("SourceTest: " + w));
        System.out.println("SourceTest: " + wrong.size() + " faults");
        if (!wrong.isEmpty()) {
            System.exit(1);
        }
    }
}

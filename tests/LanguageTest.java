import java.lang.reflect.Array;
import java.lang.reflect.Constructor;
import java.lang.reflect.Field;
import java.lang.reflect.Method;
import java.lang.reflect.Modifier;
import java.nio.file.Files;
import java.nio.file.Path;
import java.util.ArrayDeque;
import java.util.Deque;
import java.util.IdentityHashMap;
import java.util.List;
import java.util.Map;
import java.util.Set;
import java.util.TreeSet;
import java.util.regex.Matcher;
import java.util.regex.Pattern;

/** What can be seen of the rules of LANGUAGE.md, and how much room an object takes. */
public final class LanguageTest {
    private static final Set<String> FACE = Set.of("feed", "end", "schema", "record", "records", "clear", "write", "take",
            "size", "byteOf", "poke", "open", "fault", "opened", "show", "query", "run", "row", "answer", "kind", "value",
            "letter", "skipped", "output");
    private static final Set<String> LIBRARY = Set.of("Math.min", "Math.max", "Math.abs", "Long.compare", "Arrays.fill",
            "Arrays.copyOf", "System.arraycopy");

    public static void main(String[] args) throws Exception {
        face();
        source();
        room();
        VaultKit.finish();
    }

    private static void face() {
        Class<?> type = StripedVault.class;
        VaultKit.due("public and final", Modifier.isPublic(type.getModifiers()) && Modifier.isFinal(type.getModifiers()), true);
        Set<String> seen = new TreeSet<>();
        for (Method method : type.getDeclaredMethods()) {
            if (Modifier.isPublic(method.getModifiers())) {
                seen.add(method.getName());
            } else {
                VaultKit.due(method + " is private", Modifier.isPrivate(method.getModifiers()), true);
                VaultKit.due(method + " bears another name", FACE.contains(method.getName()), false);
            }
        }
        VaultKit.due("public methods", seen.toString(), new TreeSet<>(FACE).toString());
        for (Field field : type.getDeclaredFields()) {
            boolean none = field.getName().equals("NONE");
            VaultKit.due(field + " is private", Modifier.isPrivate(field.getModifiers()), !none);
            VaultKit.due(field + ": static ones are final", !Modifier.isStatic(field.getModifiers())
                    || Modifier.isFinal(field.getModifiers()), true);
        }
        Constructor<?>[] constructors = type.getDeclaredConstructors();
        VaultKit.due("constructors", constructors.length, 1);
        VaultKit.due("classes", type.getDeclaredClasses().length <= 11, true);
        for (Class<?> inside : type.getDeclaredClasses()) {
            VaultKit.due(inside + " is static", Modifier.isStatic(inside.getModifiers()), true);
            int fields = 0;
            for (Field field : inside.getDeclaredFields()) {
                fields += Modifier.isStatic(field.getModifiers()) ? 0 : 1;
            }
            VaultKit.due(inside + " has few fields", fields <= 20, true);
            for (Method method : inside.getDeclaredMethods()) {
                VaultKit.due(method + " bears another name", FACE.contains(method.getName()), false);
                VaultKit.due(method + " has few parameters", method.getParameterCount() <= 7, true);
            }
        }
    }

    private static void source() throws Exception {
        String text = Files.readString(Path.of("src/main/java/StripedVault.java"));
        String code = text.replaceAll("(?s)/\\*.*?\\*/", "").replaceAll("//[^\n]*", "")
                .replaceAll("'(\\\\.|[^'\\\\])'", "' '").replaceAll("\"(\\\\.|[^\"\\\\])*\"", "\"\"");
        for (String word : List.of("throw", "throws", "try", "catch", "synchronized", "assert", "package", "native", "volatile",
                "protected", "yield", "equals", "hashCode", "toString")) {
            VaultKit.due(word, Pattern.compile("\\b" + word + "\\b").matcher(code).find(), false);
        }
        VaultKit.due("no lambda", code.contains("->") || code.contains("::"), false);
        Matcher imports = Pattern.compile("import ([^;]*);").matcher(code);
        while (imports.find()) {
            VaultKit.due("import " + imports.group(1), imports.group(1).equals("java.util.Arrays"), true);
        }
        Matcher calls = Pattern.compile("\\b(Math|Long|Integer|Arrays|System)\\.\\w+").matcher(code);
        while (calls.find()) {
            VaultKit.due(calls.group(), LIBRARY.contains(calls.group()), true);
        }
        int start = 0;
        String[] lines = text.split("\n");
        for (int k = 0; k < lines.length; k++) {
            if (lines[k].matches(" {4,8}\\w.*\\) \\{")) {
                start = k;
            }
            if (lines[k].matches(" {4,8}\\}")) {
                VaultKit.due("a short method: " + lines[start].trim(), k - start <= 60 || lines[start].contains("class"), true);
            }
        }
    }

    /** All calls of a run share one room of 7.3 million elements: an object and what it grows by is far below. */
    private static void room() throws Exception {
        StripedVault v = new StripedVault();
        VaultKit.due("a new object", elements(v) < 450_000, true);
        VaultKit.due("schema", VaultKit.schema(v, "repeated text t;"), -1);
        String record = "{t:[" + ("'" + "\\x01".repeat(200) + "',").repeat(3) + "'a']}";
        for (int k = 0; k < 60; k++) {
            VaultKit.due("record", VaultKit.record(v, record), -1);
            v.write(1 + k, 1 + k);
            v.open();
            v.show(k);
            VaultKit.query(v, "select t");
            v.run();
            v.answer(k);
        }
        VaultKit.due("an object that was used", elements(v) < 700_000, true);
    }

    private static long elements(Object root) throws Exception {
        Map<Object, Boolean> seen = new IdentityHashMap<>();
        Deque<Object> left = new ArrayDeque<>();
        left.push(root);
        seen.put(root, true);
        long count = 0;
        while (!left.isEmpty()) {
            Object x = left.pop();
            if (x.getClass().isArray()) {
                count += Array.getLength(x);
                continue;
            }
            for (Field field : x.getClass().getDeclaredFields()) {
                if (Modifier.isStatic(field.getModifiers())) {
                    continue;
                }
                count++;
                field.setAccessible(true);
                Object y = field.getType().isPrimitive() ? null : field.get(x);
                if (y != null && seen.put(y, true) == null) {
                    left.push(y);
                }
            }
        }
        return count;
    }
}

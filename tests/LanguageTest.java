import java.lang.reflect.Array;
import java.lang.reflect.Constructor;
import java.lang.reflect.Field;
import java.lang.reflect.Method;
import java.lang.reflect.Modifier;
import java.nio.file.Files;
import java.nio.file.Path;
import java.util.ArrayDeque;
import java.util.ArrayList;
import java.util.Deque;
import java.util.IdentityHashMap;
import java.util.List;
import java.util.Map;
import java.util.Set;
import java.util.TreeSet;
import java.util.regex.Matcher;
import java.util.regex.Pattern;

/** The face of the document, what can be seen of the rules of LANGUAGE.md, and how much room an object takes. */
public final class LanguageTest {
    private static final Set<String> LIBRARY = Set.of("Math.min", "Math.max", "Math.abs", "Long.compare", "Arrays.fill",
            "Arrays.copyOf", "System.arraycopy");
    private static final Set<Class<?>> STATICS = Set.of(int.class, long.class, boolean.class, char.class, String.class,
            int[].class, long[].class, char[].class, byte[].class);
    private static final Set<Class<?>> ROWS = Set.of(int[].class, long[].class, byte[].class, boolean[].class);
    private static final List<String> WORDS_THAT_ARE_OUT = List.of("throw", "throws", "try", "catch", "finally", "synchronized",
            "assert", "package", "native", "volatile", "transient", "protected", "yield", "equals", "hashCode", "toString",
            "interface", "enum", "record \\w+", "extends", "implements", "abstract", "super", "instanceof", "var", "float", "double",
            "Thread", "Runtime", "Random", "Object");

    public static void main(String[] args) throws Exception {
        face();
        members();
        classesInside();
        words();
        types();
        loops();
        shortMethods();
        calls();
        room();
        VaultKit.finish();
    }

    /** "The public face": every constant and every method, with the types and names that stand there, and no other. */
    private static void face() throws Exception {
        Class<?> type = StripedVault.class;
        Set<String> seen = new TreeSet<>();
        seen.add(Modifier.toString(type.getModifiers()) + " class " + type.getName());
        for (Method method : type.getDeclaredMethods()) {
            if (!Modifier.isPrivate(method.getModifiers())) {
                seen.add(Modifier.toString(method.getModifiers()) + " " + method.getReturnType() + " " + method.getName()
                        + parameters(method.getParameterTypes()));
            }
        }
        for (Constructor<?> constructor : type.getDeclaredConstructors()) {
            seen.add(Modifier.toString(constructor.getModifiers()) + " " + constructor.getName()
                    + parameters(constructor.getParameterTypes()));
        }
        for (Field field : type.getDeclaredFields()) {
            if (!Modifier.isPrivate(field.getModifiers())) {
                seen.add(Modifier.toString(field.getModifiers()) + " " + field.getType() + " " + field.getName() + " = "
                        + field.get(null));
            }
        }
        VaultKit.due("the face", String.join("\n", seen), String.join("\n", faceOfTheDocument()));
        VaultKit.due("no class above it", type.getSuperclass() == Object.class && type.getInterfaces().length == 0, true);
        VaultKit.due("no package", type.getPackageName(), "");
    }

    private static String parameters(Class<?>[] types) {
        List<String> names = new ArrayList<>();
        for (Class<?> type : types) {
            names.add(type.getName());
        }
        return "(" + String.join(", ", names) + ")";
    }

    private static Set<String> faceOfTheDocument() throws Exception {
        String document = Files.readString(Path.of("../shared/DOC.md"));
        int from = document.indexOf("```java\n") + 8;
        Set<String> due = new TreeSet<>();
        for (String line : document.substring(from, document.indexOf("\n```", from)).split("\n")) {
            // Names of parameters don't matter.
            String member = line.trim().replaceAll("(int|long|boolean) \\w+(?=[,)])", "$1").replaceAll(" ?[;{}]$", "");
            if (!member.isEmpty()) {
                due.add(member);
            }
        }
        VaultKit.due("lines of the face", due.size(), 27);
        return due;
    }

    private static Set<String> namesOfTheFace() {
        Set<String> names = new TreeSet<>();
        for (Method method : StripedVault.class.getMethods()) {
            names.add(method.getName());
        }
        return names;
    }

    /** Rules 1, 5 and 11: private methods, fields, parameters. */
    private static void members() {
        List<Class<?>> all = new ArrayList<>(List.of(StripedVault.class.getDeclaredClasses()));
        all.add(StripedVault.class);
        Set<String> face = namesOfTheFace();
        for (Class<?> type : all) {
            int fields = 0;
            for (Field field : type.getDeclaredFields()) {
                if (Modifier.isStatic(field.getModifiers())) {
                    VaultKit.due(field + " is a constant", Modifier.isFinal(field.getModifiers()), true);
                    VaultKit.due(field + " has a constant's type", STATICS.contains(field.getType()), true);
                } else {
                    fields++;
                    boolean plain = field.getType().isPrimitive() || ROWS.contains(field.getType());
                    VaultKit.due(field + " has a type of the rules", plain || all.contains(field.getType()), true);
                }
            }
            VaultKit.due(type + " has few fields", fields <= 20, true);
            for (Method method : type.getDeclaredMethods()) {
                boolean open = Modifier.isPublic(method.getModifiers());
                VaultKit.due(method + " is of the face, or bears another name", face.contains(method.getName()), open);
                VaultKit.due(method + " has few parameters", method.getParameterCount() <= 7, true);
            }
        }
    }

    /** Rules 2 and 11: none but static ones, none without a name, and not too many. */
    private static void classesInside() throws Exception {
        Class<?>[] inside = StripedVault.class.getDeclaredClasses();
        VaultKit.due("classes", inside.length <= 11, true);
        for (Class<?> type : inside) {
            VaultKit.due(type + " is static", Modifier.isStatic(type.getModifiers()), true);
            VaultKit.due(type + " can't be seen", Modifier.isPublic(type.getModifiers()), false);
            VaultKit.due(type + " has none inside", type.getDeclaredClasses().length, 0);
            VaultKit.due(type + " has none above", type.getSuperclass() == Object.class && type.getInterfaces().length == 0, true);
        }
        Path compiled = Path.of(StripedVault.class.getProtectionDomain().getCodeSource().getLocation().toURI());
        String[] files = compiled.toFile().list((place, name) -> name.startsWith("StripedVault$"));
        VaultKit.due("classes that were compiled", files == null ? -1 : files.length, inside.length);
    }

    /** The program without its comments, and without what stands in quotes. */
    private static String code() throws Exception {
        return Files.readString(Path.of("src/main/java/StripedVault.java"))
                .replaceAll("(?s)/\\*.*?\\*/", "").replaceAll("//[^\n]*", "")
                .replaceAll("'(\\\\.|[^'\\\\])'", "' '").replaceAll("\"(\\\\.|[^\"\\\\])*\"", "\"\"");
    }

    /** Rules 2, 4 to 6, 10 and 13. */
    private static void words() throws Exception {
        String code = code();
        for (String word : WORDS_THAT_ARE_OUT) {
            VaultKit.due("the word " + word, Pattern.compile("\\b" + word + "\\b").matcher(code).find(), false);
        }
        VaultKit.due("no lambda", code.contains("->") || code.contains("::"), false);
        VaultKit.due("no block of static", Pattern.compile("static\\s*\\{").matcher(code).find(), false);
        VaultKit.due("no texts joined by +", Pattern.compile("\"\\s*\\+|\\+\\s*\"").matcher(code).find(), false);
        VaultKit.due("no rows of rows", code.contains("[]["), false);
        Matcher imports = Pattern.compile("import ([^;]*);").matcher(code);
        while (imports.find()) {
            VaultKit.due("import " + imports.group(1), imports.group(1).equals("java.util.Arrays"), true);
        }
        Matcher constants = Pattern.compile("\\b(MAGIC|CRC_OF_NIBBLE)\\[[^\\]]*\\] *([-+*/&|^]|<<|>>)?=[^=]").matcher(code);
        VaultKit.due("rows that are constants stay", constants.find(), false);
    }

    /** Rules 3 and 4: every word with a capital is a class of its own, a constant, or one of the library. */
    private static void types() throws Exception {
        Set<String> known = new TreeSet<>(Set.of("String", "Math", "Long", "Arrays", "System", "StripedVault"));
        for (Class<?> type : StripedVault.class.getDeclaredClasses()) {
            known.add(type.getSimpleName());
        }
        String code = code();
        Matcher words = Pattern.compile("(?<![\\w.])[A-Z]\\w*[a-z]\\w*").matcher(code);
        while (words.find()) {
            VaultKit.due("the type " + words.group(), known.contains(words.group()), true);
        }
        Matcher calls = Pattern.compile("\\b(Math|Long|Integer|Arrays|System)\\.\\w+").matcher(code);
        while (calls.find()) {
            VaultKit.due(calls.group(), LIBRARY.contains(calls.group()), true);
        }
        Matcher texts = Pattern.compile("\\bword\\.(\\w+)").matcher(code);
        while (texts.find()) {
            VaultKit.due("of a text: " + texts.group(1), Set.of("length", "charAt").contains(texts.group(1)), true);
        }
    }

    /** Rule 9: each loop compares a counter, or a chain's end, in its own line. */
    private static void loops() throws Exception {
        Matcher loops = Pattern.compile("\\b(for|while|do)\\b[^\n]*").matcher(code());
        int count = 0;
        while (loops.find()) {
            count++;
            VaultKit.due("a bound: " + loops.group(), loops.group().matches("(for|while) \\(.*(<|<=|>|>=) .*"), true);
        }
        VaultKit.due("loops", count > 50, true);
    }

    /** Rule 11: some sixty lines. */
    private static void shortMethods() throws Exception {
        int start = 0;
        String[] lines = Files.readString(Path.of("src/main/java/StripedVault.java")).split("\n");
        for (int k = 0; k < lines.length; k++) {
            if (lines[k].matches(" {4,8}\\w.*\\) \\{")) {
                start = k;
            }
            if (lines[k].matches(" {4,8}\\}")) {
                VaultKit.due("a short method: " + lines[start].trim(), k - start <= 60 || lines[start].contains("class"), true);
            }
        }
    }

    /** Rules 8 and 11: who calls one another is private and carries the depth; other calls go at most eight deep. */
    private static void calls() throws Exception {
        CallKit kit = new CallKit(StripedVault.class);
        VaultKit.due("methods", kit.methods().size() > 200, true);
        for (String method : kit.methods()) {
            VaultKit.due(method + ": " + kit.depthOf(method) + " deep, at most 8", kit.depthOf(method) <= 8, true);
        }
        Set<String> names = new TreeSet<>();
        for (String method : kit.recursive()) {
            names.add(method.substring(method.indexOf('$') + 1, method.indexOf('(')));
        }
        VaultKit.due("recursion", names.toString(), "[Assembler.writeAll, Assembler.writeGroup, Assembler.writeOne, "
                + "Query.readCondition, Query.readTest, Records.readGroup, Records.readOne, Records.readValues]");
        for (Class<?> type : StripedVault.class.getDeclaredClasses()) {
            for (Method method : type.getDeclaredMethods()) {
                if (names.contains(type.getSimpleName() + "." + method.getName())) {
                    VaultKit.due(method + " is private", Modifier.isPrivate(method.getModifiers()), true);
                }
            }
        }
    }

    /** All calls of a run share one room of 7.3 million elements: an object and what it grows by is far below. */
    private static void room() throws Exception {
        StripedVault v = new StripedVault();
        VaultKit.due("a new object", elements(v) < 450_000, true);
        VaultKit.due("schema", VaultKit.schema(v, "repeated text t;"), -1);
        String record = "{t:[" + ("'" + "\\x01".repeat(200) + "',").repeat(3) + "'a']}";
        for (int k = 0; k < 60; k++) {
            VaultKit.due("record", VaultKit.record(v, record), -1);
            v.write(1 + k, 1 + k);
            v.open();
            v.show(k);
            VaultKit.query(v, "select t");
            v.run();
            v.answer(k);
        }
        VaultKit.due("an object that was used", elements(v) < 700_000, true);
    }

    private static long elements(Object root) throws Exception {
        Map<Object, Boolean> seen = new IdentityHashMap<>();
        Deque<Object> left = new ArrayDeque<>();
        left.push(root);
        seen.put(root, true);
        long count = 0;
        while (!left.isEmpty()) {
            Object x = left.pop();
            if (x.getClass().isArray()) {
                count += Array.getLength(x);
                continue;
            }
            for (Field field : x.getClass().getDeclaredFields()) {
                if (Modifier.isStatic(field.getModifiers())) {
                    continue;
                }
                count++;
                field.setAccessible(true);
                Object y = field.getType().isPrimitive() ? null : field.get(x);
                if (y != null && seen.put(y, true) == null) {
                    left.push(y);
                }
            }
        }
        return count;
    }
}

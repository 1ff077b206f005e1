import java.lang.reflect.Method;
import java.lang.reflect.Modifier;
import java.nio.file.Files;
import java.nio.file.Path;
import java.util.Set;
import java.util.TreeSet;
import java.util.regex.Matcher;
import java.util.regex.Pattern;

/** The example of README.md, call by call, with the answers that stand there; its table has every method. */
public final class ReadmeTest {
    private static final Pattern CALL = Pattern.compile("v\\.(\\w+)\\(([^)]*)\\);\\s*// (\\S+?):?( .*)?");

    private static final Set<String> called = new TreeSet<>();
    private static StripedVault vault;

    public static void main(String[] args) throws Exception {
        String text = Files.readString(Path.of("README.md"));
        Set<String> face = face();
        example(text);
        VaultKit.due("methods in the example", called.toString(), names(face).toString());
        for (String method : face) {
            VaultKit.due("the table tells " + method, text.contains("\n| `" + method + "` |"), true);
        }
        VaultKit.due("how to run the tests", text.contains("\n    .ci/run\n"), true);
        everyTestIsNamed(text);
        VaultKit.finish();
    }

    /** The public methods, with their types, as the document's face tells them. */
    private static Set<String> face() throws Exception {
        String document = Files.readString(Path.of("../shared/DOC.md"));
        Set<String> face = new TreeSet<>();
        Matcher method = Pattern.compile("\n    public ((?:boolean|int|long|void) \\w+\\([^)]*\\));").matcher(document);
        while (method.find()) {
            face.add(method.group(1));
        }
        VaultKit.due("methods of the face", face.size(), 24);
        return face;
    }

    private static Set<String> names(Set<String> face) {
        Set<String> names = new TreeSet<>();
        for (String method : face) {
            names.add(method.substring(method.indexOf(' ') + 1, method.indexOf('(')));
        }
        return names;
    }

    private static void example(String text) throws Exception {
        int from = text.indexOf("\n```java\n");
        int to = text.indexOf("\n```\n", from + 1);
        VaultKit.due("an example", from >= 0 && to > from, true);
        for (String line : text.substring(from + 9, to).split("\n")) {
            if (line.isEmpty() || line.startsWith("//")) {
                continue;
            }
            if (line.equals("StripedVault v = new StripedVault();")) {
                vault = new StripedVault();
                continue;
            }
            Matcher call = CALL.matcher(line);
            VaultKit.due("a call: " + line, call.matches(), true);
            call(line, call.group(1), call.group(2), call.group(3), call.group(4));
        }
    }

    private static void call(String line, String name, String numbers, String answer, String comment) throws Exception {
        Object[] given = new Object[numbers.isEmpty() ? 0 : numbers.split(", ").length];
        for (int k = 0; k < given.length; k++) {
            given[k] = (int) (long) Long.decode(numbers.split(", ")[k]);
        }
        Object got = method(name).invoke(vault, given);
        VaultKit.due(line, "" + (got == null ? "void" : got), answer);
        called.add(name);
        if (name.equals("feed")) {
            VaultKit.due("the text of " + line, fedBy(given), comment.trim());
        }
        Matcher output = Pattern.compile(" the output is (.*)").matcher(comment == null ? "" : comment);
        if (output.matches()) {
            VaultKit.due(line, VaultKit.output(vault), output.group(1));
        }
    }

    private static Method method(String name) {
        for (Method method : StripedVault.class.getDeclaredMethods()) {
            if (method.getName().equals(name) && Modifier.isPublic(method.getModifiers())) {
                return method;
            }
        }
        VaultKit.due("there is a method " + name, false, true);
        return null;
    }

    private static String fedBy(Object[] given) {
        StringBuilder text = new StringBuilder();
        for (Object number : given) {
            for (int shift = 24; shift >= 0; shift -= 8) {
                int letter = (int) number >>> shift & 255;
                if (letter != 0) {
                    text.append((char) letter);
                }
            }
        }
        return "\"" + text + "\"";
    }

    private static void everyTestIsNamed(String text) throws Exception {
        try (var files = Files.list(Path.of("tests"))) {
            for (Path file : (Iterable<Path>) files::iterator) {
                String name = file.getFileName().toString().replace(".java", "");
                VaultKit.due(name + " is told of", text.contains("`" + name + "`") || text.contains("`tests/" + name + ".java`"), true);
            }
        }
    }
}

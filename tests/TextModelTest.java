import java.util.ArrayList;
import java.util.List;
import java.util.Random;
import java.util.regex.Matcher;
import java.util.regex.Pattern;

/** Any texts, also spoiled ones, are taken or refused, and queries answered, as the document's terms say when written anew. */
public final class TextModelTest {
    private static final String[] PIECES = {"required", "optional", "repeated", "bool", "int", "long", "text", "group", "a", "b",
        "c", "count", "sum", "min", "max", "select", "where", "by", "and", "or", "not", "is", "null", "in", "true", "false", "{", "}",
        "[", "]", "(", ")", ",", ":", ";", ".", "=", "<", ">", "<=", ">=", "<>", "-", "0", "00", "-0", "7", "-7", "2147483648",
        "9223372036854775808", "'", "''", "'a'", "'\\x4'", "'\\x4G'", "'\\'", "'\\n'", "\\", "?", "_", "\u0000", "\u00ff", "\t", "x1_Y",
        "abcdefghijklmnop", "abcdefghijklmnopq"};
    private static final Pattern TOKEN = Pattern.compile("[a-zA-Z]\\w*(\\.[a-zA-Z]\\w*)*|-?\\d+|'(\\\\.|[^'\\\\])*'|<=|>=|<>|[^ \n]");

    private static int refused;
    private static int taken;
    private static int answered;

    private final Random random;
    private final StripedVault vault = new StripedVault();
    private ModelKit.Field schema = new ModelKit.Field();
    private final List<ModelKit.Node> records = new ArrayList<>();

    public static void main(String[] args) {
        int times = args.length > 0 ? Integer.parseInt(args[0]) : 1;
        int first = args.length > 1 ? Integer.parseInt(args[1]) : 0;
        for (int seed = first; seed < first + 400 * times; seed++) {
            TextModelTest test = new TextModelTest(seed);
            test.schemas();
            test.records();
            test.queries();
        }
        VaultKit.due("many are refused", refused > 5000, true);
        VaultKit.due("many are taken", taken > 5000, true);
        VaultKit.due("many are answered", answered > 3000, true);
        VaultKit.finish();
    }

    private TextModelTest(int seed) {
        random = new Random(seed);
    }

    private boolean chance(int seldomness) {
        return random.nextInt(seldomness) == 0;
    }

    private static List<String> tokens(String text) {
        List<String> tokens = new ArrayList<>();
        Matcher token = TOKEN.matcher(text);
        while (token.find()) {
            tokens.add(token.group());
        }
        return tokens;
    }

    private String blanks() {
        return chance(4) ? "" : chance(3) ? "\n" : chance(9) ? "  \n" : " ";
    }

    /** Tokens with blanks between them; where there must be some, mostly. */
    private String laid(List<String> tokens) {
        StringBuilder text = new StringBuilder(chance(5) ? blanks() : "");
        for (int k = 0; k < tokens.size(); k++) {
            boolean words = k > 0 && tokens.get(k - 1).matches("(?s).*\\w") && tokens.get(k).matches("(?s)\\w.*");
            text.append(words ? chance(60) ? "" : chance(4) ? " \n" : " " : chance(4) ? blanks() : "").append(tokens.get(k));
        }
        return text.append(chance(5) ? blanks() : "").toString();
    }

    private String anyPiece() {
        return PIECES[random.nextInt(PIECES.length)];
    }

    private String perhapsSpoiled(List<String> good) {
        List<String> tokens = new ArrayList<>(good);
        int way = random.nextInt(8);
        if (way < 4 && !tokens.isEmpty()) {
            int at = random.nextInt(tokens.size());
            if (way == 0) {
                tokens.remove(at);
            } else if (way == 1) {
                tokens.add(at, tokens.get(random.nextInt(tokens.size())));
            } else if (way == 2) {
                tokens.set(at, anyPiece());
            } else {
                tokens.add(at, anyPiece());
            }
        }
        String text = laid(tokens);
        if (way == 4 && !text.isEmpty()) {
            int at = random.nextInt(text.length());
            text = text.substring(0, at) + (chance(3) ? "" : chance(3) ? "" + (char) random.nextInt(256) : anyPiece())
                    + text.substring(chance(2) ? at : at + 1);
        }
        return way == 5 && chance(2) ? text.substring(0, random.nextInt(text.length() + 1)) : text;
    }

    private void fillSchema(ModelKit.Field group, int depth) {
        int fields = 1 + random.nextInt(5);
        for (int k = 0; k < fields; k++) {
            boolean nested = depth < 3 && chance(4);
            int mode = chance(4) ? 2 : random.nextInt(2);
            ModelKit.Field field = group.add(mode, nested ? 4 : random.nextInt(4), k == 4 && chance(3) ? "count" : "" + (char) ('a' + k));
            if (nested) {
                fillSchema(field, depth + 1);
            }
        }
    }

    private void schemas() {
        for (int k = 0; k < 8; k++) {
            ModelKit.Field any = new ModelKit.Field();
            fillSchema(any, 0);
            String text = k == 7 ? ModelKit.schemaText(any) : perhapsSpoiled(tokens(ModelKit.schemaText(any)));
            int due = -1;
            try {
                schema = ReadKit.schema(text);
            } catch (ReadKit.Stop stop) {
                due = stop.place;
            }
            VaultKit.due("schema " + text, VaultKit.schema(vault, text), due);
            count(due);
        }
    }

    private static void count(int place) {
        refused += place == -1 ? 0 : 1;
        taken += place == -1 ? 1 : 0;
    }

    private Object value(int type) {
        switch (type) {
            case 0:
                return (long) random.nextInt(2);
            case 1:
                return chance(9) ? (long) (chance(2) ? Integer.MIN_VALUE : Integer.MAX_VALUE) : random.nextInt(5) - 2L;
            case 2:
                return chance(9) ? chance(2) ? Long.MIN_VALUE : Long.MAX_VALUE : random.nextInt(5) - 2L;
            default:
                String[] texts = {"", "a", "b", "ab", "it's", "\\", "\u0000\u00ff"};
                return texts[random.nextInt(texts.length)];
        }
    }

    private ModelKit.Node record(ModelKit.Field group) {
        ModelKit.Node node = new ModelKit.Node();
        for (ModelKit.Field field : group.fields) {
            int count = field.mode == 0 ? 1 : random.nextInt(field.mode == 1 ? 2 : 3);
            List<Object> values = new ArrayList<>();
            for (int k = 0; k < count; k++) {
                values.add(field.type == 4 ? record(field) : value(field.type));
            }
            node.values.put(field, values);
        }
        return node;
    }

    private void records() {
        for (int k = 0; k < 20; k++) {
            String text = perhapsSpoiled(tokens(ModelKit.text(schema, record(schema))));
            if (text.length() > 4000) {
                continue;
            }
            int due = -1;
            try {
                records.add(ReadKit.record(schema, text));
            } catch (ReadKit.Stop stop) {
                due = stop.place;
            }
            VaultKit.due("record " + text, VaultKit.record(vault, text), due);
            count(due);
        }
        VaultKit.due("records", vault.records(), records.size());
        VaultKit.opened(vault, 1 + random.nextInt(8), 1 + random.nextInt(8));
        for (int row = 0; row < records.size(); row++) {
            VaultKit.due("row", VaultKit.show(vault, row), ModelKit.text(schema, records.get(row)));
        }
    }

    private ModelKit.Field anyField(boolean flat) {
        List<ModelKit.Field> fields = new ArrayList<>();
        for (ModelKit.Field field : schema.all()) {
            if (!flat || field.r() == 0 && field.type != 4) {
                fields.add(field);
            }
        }
        return fields.isEmpty() || chance(40) ? schema.all().get(0) : fields.get(random.nextInt(fields.size()));
    }

    private static String path(ModelKit.Field field) {
        List<String> names = new ArrayList<>();
        field.way().forEach(one -> names.add(one.name));
        return String.join(".", names);
    }

    private String literal(ModelKit.Field field) {
        int type = chance(50) ? random.nextInt(4) : field.type % 4;
        ModelKit.Field plain = new ModelKit.Field().add(0, type, "v");
        ModelKit.Node node = new ModelKit.Node();
        node.values.put(plain, List.of(value(type)));
        String text = ModelKit.text(plain.group, node);
        return text.substring(3, text.length() - 1);
    }

    private String condition(int depth) {
        int way = depth > 4 ? 5 : random.nextInt(9);
        if (way < 2) {
            return condition(depth + 1) + (way == 0 ? " and " : " or ") + condition(depth + 1);
        }
        if (way < 4) {
            return way == 2 ? "not " + condition(depth + 1) : "(" + condition(depth + 1) + ")";
        }
        ModelKit.Field field = anyField(true);
        if (way == 4) {
            return path(field) + (chance(2) ? " is null" : " is not null");
        }
        if (way == 5) {
            return path(field) + " in(" + literal(field) + ("," + literal(field)).repeat(random.nextInt(3)) + ")";
        }
        String operator = new String[] {"=", "<>", "<", "<=", ">", ">="}[random.nextInt(6)];
        return path(field) + operator + (chance(4) ? path(anyField(true)) : literal(field));
    }

    private String queryText() {
        boolean collects = chance(2);
        List<String> by = new ArrayList<>();
        for (int k = random.nextInt(3); k > 0; k--) {
            String path = path(anyField(true));
            if (!by.contains(path)) {
                by.add(path);
            }
        }
        List<String> items = new ArrayList<>();
        for (int k = random.nextInt(4); k >= 0; k--) {
            String form = new String[] {"count", "min", "max", "sum"}[random.nextInt(4)];
            boolean byPath = collects && !by.isEmpty() && chance(2);
            String path = byPath ? by.get(random.nextInt(by.size())) : path(anyField(collects));
            items.add(!collects || byPath ? path : chance(4) ? "count" : form + "(" + path + ")");
        }
        return "select " + String.join(",", items) + (chance(4) ? "" : " where " + condition(0))
                + (collects && !by.isEmpty() ? " group by " + String.join(",", by) : "");
    }

    private void queries() {
        for (int k = 0; k < 40; k++) {
            String text = perhapsSpoiled(tokens(queryText()));
            if (text.length() > 2000) {
                continue;
            }
            int due = -1;
            ReadKit.Query query = null;
            try {
                query = ReadKit.query(schema, text);
            } catch (ReadKit.Stop stop) {
                due = stop.place;
            }
            VaultKit.due("query " + text, VaultKit.query(vault, text), due);
            count(due);
            if (query != null) {
                answer(text, query);
            }
        }
    }

    private void answer(String text, ReadKit.Query query) {
        AskKit due = new AskKit(query, records);
        answered++;
        int count = query.collects ? due.groups.size() : due.rows.size();
        VaultKit.due("run " + text, vault.run(), count);
        for (int k = 0; k < count; k++) {
            VaultKit.due("row of " + text, vault.row(k), query.collects ? -1 : due.rows.get(k));
            String record = query.collects ? "" : due.text(schema, records.get(due.rows.get(k)));
            VaultKit.due("answer of " + text, vault.answer(k), query.collects ? -1 : record.length());
            VaultKit.due("answer of " + text, VaultKit.output(vault), record);
            for (int item = 0; item < query.items.size(); item++) {
                dueItem(text, k, item, query.collects, due.groups.size() > k ? due.groups.get(k).get(item) : null,
                        query.items.get(item));
            }
        }
        VaultKit.due("none behind " + text, vault.kind(count, 0), -1);
        VaultKit.due("none behind " + text, vault.row(count), -1);
    }

    private void dueItem(String text, int k, int item, boolean collects, Object value, ReadKit.Item form) {
        boolean number = form.form.equals("count") || form.form.equals("sum") || form.field.type != 0;
        int kind = value == null ? 0 : value instanceof String ? 3 : number ? 2 : 1;
        VaultKit.due("kind of " + text, vault.kind(k, item), collects ? kind : -1);
        VaultKit.due("value of " + text, vault.value(k, item), collects && value instanceof Long ? (Long) value : 0);
        String letters = collects && value instanceof String ? (String) value : "";
        for (int i = 0; i <= letters.length(); i++) {
            VaultKit.due("letter of " + text, vault.letter(k, item, i), i < letters.length() ? letters.charAt(i) : -1);
        }
    }
}

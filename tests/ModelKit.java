import java.io.ByteArrayOutputStream;
import java.util.ArrayList;
import java.util.Arrays;
import java.util.LinkedHashMap;
import java.util.List;
import java.util.Map;
import java.util.Random;
import java.util.zip.CRC32;

/**
 * The document's terms, written anew and in their plainest form: schemas and records as trees, ENTRIES, CODINGS, pages, the
 * FILE as it is WRITTEN. Values are Longs (a bool is 0 or 1) and texts of which each character is a byte.
 */
final class ModelKit {
    private ModelKit() {
    }

    static final class Field {
        String name = "";
        int mode;
        int type = 4;
        int number = -1;
        Field group;
        final List<Field> fields = new ArrayList<>();

        int r() {
            return group == null ? 0 : group.r() + (mode == 2 ? 1 : 0);
        }

        int d() {
            return group == null ? 0 : group.d() + (mode == 0 ? 0 : 1);
        }

        /** The fields from the schema down to this one. */
        List<Field> way() {
            List<Field> way = group == null || group.group == null ? new ArrayList<>() : group.way();
            way.add(this);
            return way;
        }

        /** All fields in this one (a schema, or a group), in their order. */
        List<Field> all() {
            List<Field> all = new ArrayList<>();
            for (Field field : fields) {
                all.add(field);
                all.addAll(field.all());
            }
            return all;
        }

        List<Field> columns() {
            List<Field> columns = new ArrayList<>();
            for (Field field : all()) {
                if (field.type != 4) {
                    columns.add(field);
                }
            }
            return columns;
        }

        Field add(int itsMode, int itsType, String itsName) {
            Field field = new Field();
            field.mode = itsMode;
            field.type = itsType;
            field.name = itsName;
            field.group = this;
            fields.add(field);
            return field;
        }

        void count() {
            int next = 0;
            for (Field field : all()) {
                field.number = next;
                next++;
            }
        }
    }

    /** A record, or a value of a group: of each field that is there its values. */
    static final class Node {
        final Map<Field, List<Object>> values = new LinkedHashMap<>();
    }

    static final class Entry {
        final int rep;
        final int def;
        final Object value;

        Entry(int rep, int def, Object value) {
            this.rep = rep;
            this.def = def;
            this.value = value;
        }
    }

    static List<Entry> entries(Field column, Node record) {
        List<Entry> out = new ArrayList<>();
        enter(column.way(), 0, record, 0, 0, out);
        return out;
    }

    private static void enter(List<Field> way, int step, Node node, int rep, int def, List<Entry> out) {
        Field field = way.get(step);
        List<Object> values = node.values.getOrDefault(field, List.of());
        if (values.isEmpty()) {
            out.add(new Entry(rep, def, null));
        }
        for (int k = 0; k < values.size(); k++) {
            int level = k == 0 ? rep : field.r();
            if (step == way.size() - 1) {
                out.add(new Entry(level, field.d(), values.get(k)));
            } else {
                enter(way, step + 1, (Node) values.get(k), level, field.d(), out);
            }
        }
    }

    /** A record as it is WRITTEN. */
    static String text(Field group, Node node) {
        List<String> parts = new ArrayList<>();
        for (Field field : group.fields) {
            List<String> values = new ArrayList<>();
            for (Object value : node.values.getOrDefault(field, List.of())) {
                values.add(text(field, value));
            }
            if (!values.isEmpty()) {
                String joined = String.join(",", values);
                parts.add(field.name + ":" + (field.mode == 2 ? "[" + joined + "]" : joined));
            }
        }
        return "{" + String.join(",", parts) + "}";
    }

    private static String text(Field field, Object value) {
        if (field.type == 4) {
            return text(field, (Node) value);
        }
        if (field.type == 0) {
            return (Long) value == 1 ? "true" : "false";
        }
        if (field.type < 3) {
            return "" + value;
        }
        StringBuilder text = new StringBuilder("'");
        for (char c : ((String) value).toCharArray()) {
            text.append(c < 32 || c > 126 ? String.format("\\x%02x", (int) c) : c == '\'' || c == '\\' ? "\\" + c : "" + c);
        }
        return text + "'";
    }

    static String schemaText(Field group) {
        StringBuilder text = new StringBuilder();
        for (Field field : group.fields) {
            text.append(new String[] {"required ", "optional ", "repeated "}[field.mode]);
            text.append(new String[] {"bool ", "int ", "long ", "text ", "group "}[field.type]).append(field.name);
            text.append(field.type == 4 ? "{" + schemaText(field) + "}" : ";");
        }
        return text.toString();
    }

    static int compare(Object a, Object b) {
        // Characters are 0 to 255: the order of texts is that of their bytes.
        return a instanceof Long ? Long.compare((Long) a, (Long) b) : ((String) a).compareTo((String) b);
    }

    static Object least(List<Object> values) {
        Object least = values.get(0);
        for (Object value : values) {
            least = compare(value, least) < 0 ? value : least;
        }
        return least;
    }

    static Object greatest(List<Object> values) {
        Object greatest = values.get(0);
        for (Object value : values) {
            greatest = compare(value, greatest) > 0 ? value : greatest;
        }
        return greatest;
    }

    /** The WIDTH by which a number can be told. */
    static int width(long number) {
        return 64 - Long.numberOfLeadingZeros(number);
    }

    /** RUNS as they are WRITTEN, or, with a source of chance, any others. */
    static byte[] runs(List<Integer> numbers, int width, Random any) {
        byte[] out = new byte[0];
        int at = 0;
        while (at < numbers.size()) {
            int same = same(numbers, at);
            boolean one = any == null ? same >= 8 : any.nextInt(3) == 0;
            if (one) {
                int times = any == null ? same : 1 + any.nextInt(same);
                out = VaultKit.cat(out, VaultKit.same(width, numbers.get(at), times));
                at += times;
                continue;
            }
            int to = at + 8;
            while (to < numbers.size() && (any == null ? same(numbers, to) < 8 : any.nextBoolean())) {
                to += 8;
            }
            long[] group = new long[to - at];
            for (int k = at; k < Math.min(to, numbers.size()); k++) {
                group[k - at] = numbers.get(k);
            }
            out = VaultKit.cat(out, VaultKit.groups(width, group));
            at = to;
        }
        return out;
    }

    private static int same(List<Integer> numbers, int at) {
        int same = 0;
        while (at + same < numbers.size() && numbers.get(at + same).equals(numbers.get(at))) {
            same++;
        }
        return same;
    }

    static byte[] code(List<Long> numbers) {
        long[] row = new long[numbers.size()];
        for (int k = 0; k < row.length; k++) {
            row[k] = numbers.get(k);
        }
        return VaultKit.code(row);
    }

    static byte[] told(int type, Object value) {
        if (type == 3) {
            return VaultKit.sized(value);
        }
        return type == 0 ? VaultKit.cat((int) (long) (Long) value) : VaultKit.varint(VaultKit.zigzag((Long) value));
    }

    static byte[] plain(int type, List<Object> values) {
        ByteArrayOutputStream out = new ByteArrayOutputStream();
        if (type == 0) {
            long[] bits = new long[values.size()];
            for (int k = 0; k < bits.length; k++) {
                bits[k] = (Long) values.get(k);
            }
            return VaultKit.bits(1, bits);
        }
        for (Object value : values) {
            if (type == 3) {
                out.writeBytes(VaultKit.sized(value));
            } else {
                for (int k = 0; k < (type == 1 ? 4 : 8); k++) {
                    out.write((int) ((Long) value >> 8 * k));
                }
            }
        }
        return out.toByteArray();
    }

    /** The values in a coding, as they are WRITTEN, or, with a source of chance, in any way that is allowed. */
    static byte[] coded(int type, int coding, List<Object> values, Random any) {
        if (coding == 0) {
            return plain(type, values);
        }
        if (type == 0) {
            List<Integer> bits = new ArrayList<>();
            values.forEach(value -> bits.add((int) (long) (Long) value));
            return runs(bits, 1, any);
        }
        if (coding == (type == 3 ? 3 : 2)) {
            return byDictionary(type, values, any);
        }
        if (type != 3) {
            List<Long> numbers = new ArrayList<>();
            values.forEach(value -> numbers.add((Long) value));
            return code(numbers);
        }
        return coding == 1 ? byLengths(values) : inParts(values, any);
    }

    private static byte[] byLengths(List<Object> values) {
        List<Long> lengths = new ArrayList<>();
        values.forEach(value -> lengths.add((long) ((String) value).length()));
        byte[] out = VaultKit.sized(code(lengths));
        for (Object value : values) {
            out = VaultKit.cat(out, value);
        }
        return out;
    }

    private static byte[] inParts(List<Object> values, Random any) {
        List<Long> common = new ArrayList<>();
        List<Long> more = new ArrayList<>();
        StringBuilder rest = new StringBuilder();
        String before = "";
        for (Object value : values) {
            String text = (String) value;
            int same = 0;
            while (same < Math.min(before.length(), text.length()) && before.charAt(same) == text.charAt(same)) {
                same++;
            }
            same = any == null || same == 0 ? same : any.nextInt(same + 1);
            common.add((long) same);
            more.add((long) text.length() - same);
            rest.append(text.substring(same));
            before = text;
        }
        return VaultKit.cat(VaultKit.sized(code(common)), VaultKit.sized(code(more)), rest.toString());
    }

    private static byte[] byDictionary(int type, List<Object> values, Random any) {
        List<Object> dictionary = new ArrayList<>();
        List<Integer> numbers = new ArrayList<>();
        for (Object value : values) {
            if (!dictionary.contains(value) || any != null && any.nextInt(4) == 0) {
                dictionary.add(value);
            }
            numbers.add(any == null ? dictionary.indexOf(value) : dictionary.lastIndexOf(value));
        }
        int width = dictionary.isEmpty() ? 0 : width(dictionary.size() - 1);
        width += any == null ? 0 : any.nextInt(Math.min(6, 33 - width));
        return VaultKit.cat(VaultKit.varint(dictionary.size()), plain(type, dictionary), width, runs(numbers, width, any));
    }

    static int codings(int type) {
        return type == 0 ? 2 : type == 3 ? 4 : 3;
    }

    static List<Object> values(List<Entry> entries) {
        List<Object> values = new ArrayList<>();
        for (Entry entry : entries) {
            if (entry.value != null) {
                values.add(entry.value);
            }
        }
        return values;
    }

    private static byte[] levels(List<Entry> entries, boolean reps, int most, Random any) {
        if (most == 0) {
            return new byte[0];
        }
        List<Integer> levels = new ArrayList<>();
        entries.forEach(entry -> levels.add(reps ? entry.rep : entry.def));
        return VaultKit.sized(runs(levels, width(most), any));
    }

    static byte[] bodyOf(Field column, List<Entry> entries, int coding, Random any) {
        return VaultKit.cat(levels(entries, true, column.r(), any), levels(entries, false, column.d(), any),
                coded(column.type, coding, values(entries), any));
    }

    static byte[] headOf(Field column, List<Entry> entries, int coding) {
        List<Object> values = values(entries);
        byte[] head = VaultKit.cat(VaultKit.varint(entries.size()), VaultKit.varint(entries.size() - values.size()), coding);
        return values.isEmpty() ? head
                : VaultKit.cat(head, told(column.type, least(values)), told(column.type, greatest(values)));
    }

    /** A page as it is WRITTEN. */
    static byte[] page(Field column, List<Entry> entries) {
        int chosen = 0;
        byte[] body = bodyOf(column, entries, 0, null);
        for (int coding = 1; coding < codings(column.type); coding++) {
            byte[] other = bodyOf(column, entries, coding, null);
            if (other.length < body.length) {
                chosen = coding;
                body = other;
            }
        }
        return VaultKit.page(headOf(column, entries, chosen), body);
    }

    static byte[] fieldsOf(Field schema) {
        byte[] out = VaultKit.varint(schema.all().size());
        for (Field field : schema.all()) {
            out = VaultKit.cat(out, field.mode + 3 * field.type, VaultKit.varint(field.group.number + 1), VaultKit.sized(field.name));
        }
        return out;
    }

    static byte[] toldOf(Field column, int bytes, int pages, List<Entry> entries) {
        List<Object> values = values(entries);
        byte[] told = VaultKit.cat(VaultKit.varint(bytes), VaultKit.varint(pages), VaultKit.varint(entries.size()),
                VaultKit.varint(entries.size() - values.size()));
        return values.isEmpty() ? told
                : VaultKit.cat(told, told(column.type, least(values)), told(column.type, greatest(values)));
    }

    /** The FILE of records, as it is WRITTEN; null if there can't be such a one. */
    static byte[] written(Field schema, List<Node> records, int page, int group) {
        int groups = (records.size() + group - 1) / group;
        ByteArrayOutputStream chunks = new ByteArrayOutputStream();
        ByteArrayOutputStream footer = new ByteArrayOutputStream();
        footer.writeBytes(VaultKit.cat(fieldsOf(schema), VaultKit.varint(records.size()), VaultKit.varint(groups)));
        for (int from = 0; from < records.size(); from += group) {
            List<Node> rows = records.subList(from, Math.min(from + group, records.size()));
            footer.writeBytes(VaultKit.varint(rows.size()));
            for (Field column : schema.columns()) {
                List<List<Entry>> pages = pages(column, rows, page);
                List<Entry> all = new ArrayList<>();
                int before = chunks.size();
                for (List<Entry> entries : pages) {
                    if (entries.size() > 1000) {
                        return null;
                    }
                    chunks.writeBytes(page(column, entries));
                    all.addAll(entries);
                }
                footer.writeBytes(toldOf(column, chunks.size() - before, pages.size(), all));
            }
        }
        byte[] file = VaultKit.frame(chunks.toByteArray(), footer.toByteArray());
        return groups > 500 || file.length > 40000 ? null : file;
    }

    private static List<List<Entry>> pages(Field column, List<Node> rows, int page) {
        List<List<Entry>> pages = new ArrayList<>();
        for (Node row : rows) {
            List<Entry> more = entries(column, row);
            List<Entry> both = new ArrayList<>();
            if (!pages.isEmpty()) {
                both.addAll(pages.get(pages.size() - 1));
            }
            both.addAll(more);
            if (!pages.isEmpty() && both.size() <= page && bytesOfTexts(both) <= 20000) {
                pages.set(pages.size() - 1, both);
            } else {
                pages.add(more);
            }
        }
        return pages;
    }

    static int bytesOfTexts(List<Entry> entries) {
        int bytes = 0;
        for (Entry entry : entries) {
            bytes += entry.value instanceof String ? ((String) entry.value).length() : 0;
        }
        return bytes;
    }

    static long check(byte[] bytes, int from, int to) {
        CRC32 crc = new CRC32();
        crc.update(bytes, from, to - from);
        return crc.getValue();
    }

    static byte[] part(byte[] bytes, int from, int to) {
        return Arrays.copyOfRange(bytes, from, to);
    }
}

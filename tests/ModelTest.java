import java.util.ArrayList;
import java.util.Arrays;
import java.util.List;
import java.util.Random;

/** Any records are WRITTEN, any files OPENED, also spoiled ones, as the document's terms say when they are written anew. */
public final class ModelTest {
    private static final int[] counts = new int[24];

    private final Random random;
    private final ModelKit.Field schema = new ModelKit.Field();
    /** How seldom something is spoiled; 0 for never. */
    private int seldom;

    public static void main(String[] args) {
        int times = args.length > 0 ? Integer.parseInt(args[0]) : 1;
        int first = args.length > 1 ? Integer.parseInt(args[1]) : 0;
        for (int seed = first; seed < first + 250 * times; seed++) {
            new ModelTest(seed).writes();
        }
        for (int seed = first; seed < first + 6000 * times; seed++) {
            new ModelTest(seed).opens();
        }
        for (int fault = 0; fault < 22; fault++) {
            VaultKit.due("some files have fault " + fault, counts[fault] > 0, true);
        }
        VaultKit.finish();
    }

    private ModelTest(int seed) {
        random = new Random(seed);
    }

    private boolean chance(int seldomness) {
        return random.nextInt(seldomness) == 0;
    }

    private void fillSchema(ModelKit.Field group, int depth, int most) {
        int fields = 1 + random.nextInt(most);
        for (int k = 0; k < fields; k++) {
            boolean nested = depth < 4 && chance(3);
            ModelKit.Field field = group.add(random.nextInt(3), nested ? 4 : random.nextInt(4), "f" + k);
            if (nested) {
                fillSchema(field, depth + 1, most);
            }
        }
    }

    private Object value(int type) {
        long wide = random.nextLong() >> random.nextInt(64);
        switch (type) {
            case 0:
                return (long) random.nextInt(2);
            case 1:
                return chance(3) ? (long) (int) wide : (long) random.nextInt(4);
            case 2:
                return chance(3) ? wide : random.nextInt(4) - 2L;
            default:
                String[] texts = {"", "a", "ab", "abc", "abd", "b", "\u0000", "\u00ff", "it's", "\\"};
                return chance(20) ? "ab".repeat(random.nextInt(128)) : texts[random.nextInt(texts.length)];
        }
    }

    private ModelKit.Node record(ModelKit.Field group, int most) {
        ModelKit.Node node = new ModelKit.Node();
        for (ModelKit.Field field : group.fields) {
            int count = field.mode == 0 ? 1 : random.nextInt(field.mode == 1 ? 2 : chance(4) ? most : 3);
            List<Object> values = new ArrayList<>();
            for (int k = 0; k < count; k++) {
                boolean again = k > 0 && !chance(3);
                values.add(field.type == 4 ? record(field, 4) : again ? values.get(k - 1) : value(field.type));
            }
            node.values.put(field, values);
        }
        return node;
    }

    private List<ModelKit.Node> records(int count, int most) {
        List<ModelKit.Node> records = new ArrayList<>();
        for (int k = 0; k < count; k++) {
            int before = records.size();
            ModelKit.Node record = before > 0 && chance(3) ? records.get(before - 1) : record(schema, most);
            if (ModelKit.text(schema, record).length() <= 4000) {
                records.add(record);
            }
        }
        return records;
    }

    private void writes() {
        fillSchema(schema, 0, 4);
        schema.count();
        StripedVault v = new StripedVault();
        VaultKit.due("schema", VaultKit.schema(v, ModelKit.schemaText(schema)), -1);
        List<ModelKit.Node> records = new ArrayList<>();
        for (ModelKit.Node record : records(random.nextInt(40), 60)) {
            if (VaultKit.record(v, ModelKit.text(schema, record)) == -1) {
                records.add(record);
            }
        }
        for (int way = 0; way < 4; way++) {
            int page = 1 + random.nextInt(way == 0 ? 1000 : 20);
            int group = 1 + random.nextInt(way < 2 ? 2000 : 20);
            byte[] due = ModelKit.written(schema, records, page, group);
            VaultKit.due("write", v.write(page, group), due == null ? -1 : due.length);
            if (due != null) {
                VaultKit.due("the file", VaultKit.hex(VaultKit.file(v)), VaultKit.hex(due));
                VaultKit.due("open", v.open(), 0);
            }
            for (int row = 0; row < records.size() && due != null; row++) {
                VaultKit.due("row " + row, VaultKit.show(v, row), ModelKit.text(schema, records.get(row)));
            }
        }
    }

    private void opens() {
        fillSchema(schema, 0, 2);
        schema.count();
        seldom = chance(6) ? 0 : 2 + random.nextInt(40);
        byte[] file = anyFile(records(random.nextInt(8), 12));
        if (seldom > 0 && chance(20)) {
            file = spoiled(file);
        }
        LookKit due = new LookKit(file);
        counts[due.fault]++;
        if (seldom == 0) {
            VaultKit.due("a file that isn't spoiled", due.fault, 0);
        }
        StripedVault v = VaultKit.taken(file);
        String name = "of " + VaultKit.hex(file) + ": ";
        VaultKit.due(name + "open", v.open(), due.fault);
        VaultKit.due(name + "the fault's group", v.fault(0), due.group);
        VaultKit.due(name + "the fault's column", v.fault(1), due.column);
        VaultKit.due(name + "the fault's page", v.fault(2), due.page);
        boolean good = due.fault == 0;
        VaultKit.due(name + "rows", v.opened(0), good ? due.rows.size() : -1);
        VaultKit.due(name + "groups", v.opened(1), good ? due.groups : -1);
        VaultKit.due(name + "fields", v.opened(2), good ? due.schema.all().size() : -1);
        VaultKit.due(name + "columns", v.opened(3), good ? due.schema.columns().size() : -1);
        VaultKit.due(name + "pages", v.opened(4), good ? due.pages : -1);
        for (int row = 0; row < due.rows.size() && good; row++) {
            VaultKit.due(name + "row " + row, VaultKit.show(v, row), due.rows.get(row));
        }
    }

    /** Another byte, one more, one less, or fewer bytes. */
    private byte[] spoiled(byte[] bytes) {
        if (bytes.length == 0) {
            return new byte[] {(byte) random.nextInt(256)};
        }
        int at = random.nextInt(bytes.length);
        byte[] front = Arrays.copyOf(bytes, at);
        byte[] back = ModelKit.part(bytes, at + 1, bytes.length);
        int other = chance(2) ? random.nextInt(256) : bytes[at] + random.nextInt(5) - 2;
        switch (random.nextInt(8)) {
            case 0:
                return VaultKit.cat(front, other & 255, bytes[at] & 255, back);
            case 1:
                return VaultKit.cat(front, back);
            case 2:
                return front;
            case 3:
                return VaultKit.cat(front, (bytes[at] ^ 1 << random.nextInt(8)) & 255, back);
            default:
                return VaultKit.cat(front, other & 255, back);
        }
    }

    private byte[] perhapsSpoiled(byte[] bytes) {
        return seldom > 0 && chance(seldom) ? spoiled(bytes) : bytes;
    }

    /** Levels that don't fit, too. */
    private List<ModelKit.Entry> perhapsSpoiled(ModelKit.Field column, List<ModelKit.Entry> entries) {
        if (seldom == 0 || !chance(seldom)) {
            return entries;
        }
        List<ModelKit.Entry> other = new ArrayList<>(entries);
        int at = random.nextInt(other.size());
        int def = chance(2) ? other.get(at).def : random.nextInt(1 << ModelKit.width(column.d()));
        int rep = random.nextInt(1 << ModelKit.width(column.r()));
        Object value = def != column.d() ? null : other.get(at).value == null ? value(column.type) : other.get(at).value;
        if (chance(3)) {
            other.add(at, new ModelKit.Entry(rep, def, value));
        } else {
            other.set(at, new ModelKit.Entry(rep, def, value));
        }
        return other;
    }

    /** A FILE of records, in any pages, codings and runs. */
    private byte[] anyFile(List<ModelKit.Node> records) {
        byte[] chunks = new byte[0];
        byte[] told = new byte[0];
        int groups = 0;
        int from = 0;
        while (from < records.size()) {
            int to = from + 1 + random.nextInt(records.size() - from);
            told = VaultKit.cat(told, VaultKit.varint(to - from));
            for (ModelKit.Field column : schema.columns()) {
                List<ModelKit.Entry> all = new ArrayList<>();
                byte[] chunk = new byte[0];
                int pages = 0;
                int row = from;
                while (row < to) {
                    List<ModelKit.Entry> entries = new ArrayList<>();
                    int stop = row + 1 + random.nextInt(to - row);
                    for (; row < stop; row++) {
                        entries.addAll(ModelKit.entries(column, records.get(row)));
                    }
                    entries = perhapsSpoiled(column, entries);
                    chunk = VaultKit.cat(chunk, anyPage(column, entries));
                    pages++;
                    all.addAll(entries);
                }
                chunk = seldom > 0 && chance(4 * seldom) ? spoiled(chunk) : chunk;
                chunks = VaultKit.cat(chunks, chunk);
                told = VaultKit.cat(told, perhapsSpoiled(ModelKit.toldOf(column, chunk.length, pages, all)));
            }
            groups++;
            from = to;
        }
        byte[] footer = VaultKit.cat(perhapsSpoiled(ModelKit.fieldsOf(schema)), VaultKit.varint(records.size()),
                VaultKit.varint(groups), told);
        return VaultKit.frame(chunks, perhapsSpoiled(footer));
    }

    private byte[] anyPage(ModelKit.Field column, List<ModelKit.Entry> entries) {
        int coding = random.nextInt(ModelKit.codings(column.type));
        byte[] head = perhapsSpoiled(ModelKit.headOf(column, entries, coding));
        return VaultKit.page(head, perhapsSpoiled(ModelKit.bodyOf(column, entries, coding, random)));
    }
}

import java.util.ArrayList;
import java.util.List;
import java.util.Random;

/** What is written comes back, queries answer alike however it is written, and no call ever throws. */
public final class RandomTest {
    private static final String[] KINDS = {"required", "optional", "repeated"};
    private static final String[] TYPES = {"bool", "int", "long", "text", "group"};
    private static final String[] TEXTS = {"", "a", "ab", "abc", "oslo", "it\\'s", "\\\\", "\\x00\\xff", "zz zz"};

    /** A field, or a schema. */
    private static final class Node {
        String name = "";
        int kind;
        int type = 4;
        final List<Node> inside = new ArrayList<>();
    }

    public static void main(String[] args) {
        for (int seed = 0; seed < 150; seed++) {
            comesBack(new Random(seed));
        }
        for (int seed = 0; seed < 150; seed++) {
            wrongBytes(new Random(seed));
        }
        for (int seed = 0; seed < 60; seed++) {
            anyCalls(new Random(seed));
        }
        VaultKit.finish();
    }

    private static Node group(Random random, int depth) {
        Node node = new Node();
        int count = 1 + random.nextInt(4);
        for (int k = 0; k < count; k++) {
            boolean nested = depth < 4 && random.nextInt(3) == 0;
            Node field = nested ? group(random, depth + 1) : new Node();
            field.name = "f" + k;
            field.kind = random.nextInt(3);
            field.type = nested ? 4 : random.nextInt(4);
            node.inside.add(field);
        }
        return node;
    }

    private static String blank(Random random) {
        return random.nextInt(4) == 0 ? random.nextBoolean() ? " " : "\n " : "";
    }

    private static String schemaText(Random random, Node node) {
        StringBuilder text = new StringBuilder();
        for (Node field : node.inside) {
            text.append(blank(random)).append(KINDS[field.kind]).append(" ").append(TYPES[field.type]).append("\n");
            text.append(field.name).append(blank(random));
            text.append(field.type == 4 ? "{" + schemaText(random, field) + "}" : ";");
        }
        return text.toString();
    }

    private static String valueText(Random random, Node field) {
        switch (field.type) {
            case 0:
                return random.nextBoolean() ? "true" : "false";
            case 1:
                return "" + (random.nextBoolean() ? random.nextInt(5) : random.nextInt());
            case 2:
                return "" + (random.nextBoolean() ? random.nextInt(5) - 2 : random.nextLong());
            case 3:
                return "'" + TEXTS[random.nextInt(TEXTS.length)] + "'";
            default:
                return recordText(random, field);
        }
    }

    /** A record as it is WRITTEN. */
    private static String recordText(Random random, Node node) {
        StringBuilder text = new StringBuilder();
        for (Node field : node.inside) {
            int count = field.kind == 0 ? 1 : random.nextInt(field.kind == 1 ? 2 : 4);
            if (count == 0) {
                continue;
            }
            text.append(text.length() == 0 ? "" : ",").append(field.name).append(":").append(field.kind == 2 ? "[" : "");
            for (int k = 0; k < count; k++) {
                text.append(k == 0 ? "" : ",").append(valueText(random, field));
            }
            text.append(field.kind == 2 ? "]" : "");
        }
        return "{" + text + "}";
    }

    private static List<String> fill(Random random, StripedVault v, Node schema, int count) {
        VaultKit.due("schema", VaultKit.schema(v, schemaText(random, schema)), -1);
        List<String> records = new ArrayList<>();
        for (int k = 0; k < count; k++) {
            String record = recordText(random, schema);
            if (record.length() < 1000) {
                records.add(record);
                VaultKit.due("record " + record, VaultKit.record(v, blank(random) + record + blank(random)), -1);
            }
        }
        return records;
    }

    private static void comesBack(Random random) {
        StripedVault v = new StripedVault();
        Node schema = group(random, 0);
        List<String> records = fill(random, v, schema, random.nextInt(25));
        String column = schema.inside.get(0).kind < 2 && schema.inside.get(0).type < 4 ? "f0" : "";
        String answers = "";
        for (int way = 0; way < 3; way++) {
            int page = 1 + random.nextInt(way == 0 ? 3 : 1000);
            int group = 1 + random.nextInt(way == 0 ? 3 : 2000);
            VaultKit.due("write", v.write(page, group) > 0, true);
            VaultKit.due("open", v.open(), 0);
            VaultKit.due("rows", v.opened(0), records.size());
            for (int row = 0; row < records.size(); row++) {
                VaultKit.due("row", VaultKit.show(v, row), records.get(row));
            }
            if (!column.isEmpty()) {
                VaultKit.due("query", VaultKit.query(v, "select f0 where f0 is not null and not f0 <> f0 group by f0"), -1);
                String now = "" + v.run() + " " + v.kind(0, 0) + " " + v.value(0, 0) + " " + v.letter(0, 0, 0);
                VaultKit.due("answers alike", way == 0 ? now : answers, now);
                answers = now;
            }
        }
    }

    /** Some bytes of a good file become others; the checks may be made good again. */
    private static void wrongBytes(Random random) {
        StripedVault v = new StripedVault();
        Node schema = group(random, 0);
        fill(random, v, schema, 1 + random.nextInt(10));
        v.write(1 + random.nextInt(10), 1 + random.nextInt(5));
        byte[] good = VaultKit.file(v);
        for (int k = 0; k < 90; k++) {
            byte[] wrong = good.clone();
            int footer = (wrong[wrong.length - 12] & 255) + ((wrong[wrong.length - 11] & 255) << 8);
            int from = wrong.length - 12 - footer;
            for (int n = random.nextInt(2); n >= 0; n--) {
                wrong[random.nextInt(wrong.length)] += (byte) (random.nextBoolean() ? 1 : random.nextInt(256));
            }
            if (random.nextBoolean()) {
                byte[] check = VaultKit.check(java.util.Arrays.copyOfRange(wrong, from, wrong.length - 12));
                System.arraycopy(check, 0, wrong, wrong.length - 8, 4);
            }
            VaultKit.input(v, wrong);
            v.take();
            int fault = v.open();
            VaultKit.due("a fault that there is", fault >= 0 && fault <= 22, true);
            VaultKit.due("open or not", v.opened(0) >= 0, fault == 0);
            for (int row = 0; row < Math.max(1, v.opened(0)); row++) {
                VaultKit.due("shown or not", v.show(row) > 0, fault == 0);
            }
        }
    }

    private static int any(Random random) {
        int[] some = {0, 1, -1, 2, 3, 100, 1000, 2000, 40000, Integer.MAX_VALUE, Integer.MIN_VALUE};
        return random.nextBoolean() ? some[random.nextInt(some.length)] : random.nextInt(12) - 2;
    }

    private static void anyCalls(Random random) {
        StripedVault v = new StripedVault();
        String[] inputs = {"required int a;optional text t;repeated group g{optional bool b;}", "{a:1}", "{a:2,t:'x',g:[{b:true},{}]}",
            "select a", "select t,count where a > 1 or g is null group by t", "select count,min(t) where a <> 7", "select g where a in (1,2)",
            "{a:", "select", "required", "'", "\\", "-"};
        for (int call = 0; call < 500; call++) {
            switch (random.nextInt(24)) {
                case 0:
                case 1:
                case 2:
                    VaultKit.input(v, inputs[random.nextInt(inputs.length)]);
                    call += 4;
                    break;
                case 3:
                    v.schema();
                    break;
                case 4:
                case 5:
                    v.record();
                    break;
                case 6:
                    v.query();
                    break;
                case 7:
                    v.run();
                    break;
                case 8:
                case 9:
                    v.write(any(random), any(random));
                    break;
                case 10:
                    v.open();
                    break;
                case 11:
                    v.take();
                    break;
                case 12:
                    v.poke(any(random), any(random));
                    break;
                case 13:
                    v.feed(any(random), any(random), any(random), any(random), any(random));
                    break;
                case 14:
                    v.end(any(random));
                    break;
                case 15:
                    v.show(any(random));
                    break;
                case 16:
                    v.answer(any(random));
                    break;
                case 17:
                    v.letter(any(random), any(random), any(random));
                    break;
                case 18:
                    v.value(any(random), any(random));
                    break;
                case 19:
                    v.kind(any(random), any(random));
                    break;
                case 20:
                    v.fault(any(random));
                    v.opened(any(random));
                    v.skipped(any(random));
                    break;
                case 21:
                    v.output(any(random));
                    v.byteOf(any(random));
                    break;
                case 22:
                    v.row(any(random));
                    break;
                default:
                    if (random.nextInt(5) == 0) {
                        v.clear();
                    }
                    break;
            }
            VaultKit.due("records", v.records() >= 0, true);
        }
    }
}

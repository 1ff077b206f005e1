/** Promise 4: schemas, and by which place what can't stand is told. */
public final class SchemaTest {
    private static final String NAME16 = "abcdefghijklmnop";

    public static void main(String[] args) {
        good();
        faults();
        limits();
        stays();
        VaultKit.finish();
    }

    private static void place(String text, int want) {
        VaultKit.due("schema " + text, VaultKit.schema(new StripedVault(), text), want);
    }

    private static void good() {
        place("required int a;", -1);
        place("\n required\nint a ; \n", -1);
        place("optional bool b;repeated long l;required text t;", -1);
        place("repeated group g{optional group h{required int a;}required int b;}required int c;", -1);
        place("required int required;required int int;required group group{required bool true;}", -1);
        place("required int a;optional group g{required int a;}", -1);
        place("required int " + NAME16 + ";", -1);
        place("required int a_9;required int A_9;", -1);
        place("required int z;required int Z;required int zZ_09;", -1);
    }

    private static void faults() {
        place("", 0);
        place("  \n", 3);
        place("require int a;", 0);
        place("Required int a;", 0);
        place("required5 int a;", 0);
        place("required short a;", 9);
        place("required  intt a;", 10);
        place("required int;", 12);
        place("required int a", 14);
        place("required int a  ", 16);
        place("required int a,", 14);
        place("required int 5;", 13);
        place("required int _a;", 13);
        place("required int a b;", 15);
        place("required\tint a;", 8);
        place("required int " + NAME16 + "q;", 13);
        place("required int a;required int a;", 28);
        place("required int a;required group a{required int b;}", 30);
        place("required group g{}", 17);
        place("required group g{required int a;", 32);
        place("required group g{required int a;};", 33);
        place("required group g{required int a;}}", 33);
        place("required group g;", 16);
        place("required int a{", 14);
        place("required int a;-", 15);
        place("required int a;}", 15);
        place("required", 8);
        place("required ", 9);
    }

    private static String columns(int from, int to) {
        StringBuilder text = new StringBuilder();
        for (int k = from; k < to; k++) {
            text.append("required int c").append(k).append(";");
        }
        return text.toString();
    }

    private static String nested(int groups, String inside) {
        return "optional group g{".repeat(groups) + inside + "}".repeat(groups);
    }

    private static void limits() {
        place(columns(0, 64), -1);
        place(columns(0, 64) + "required int z;", columns(0, 64).length() + 13);
        place(nested(16, "required int a;"), -1);
        place(nested(17, "required int a;"), 16 * 17 + 15);
        // 64 columns and 64 groups around them, each its own: 128 fields.
        StringBuilder most = new StringBuilder();
        for (int k = 0; k < 64; k++) {
            most.append("optional group g").append(k).append("{required int a;}");
        }
        place(most.toString(), -1);
        place(most + "optional group z{", most.length() + 15);
        place("required int a;" + " ".repeat(3985), -1);
        place("required int a;" + " ".repeat(3986), 4000);
        place("@".repeat(4001), 4000);
        place("@".repeat(4000), 0);
    }

    private static void stays() {
        StripedVault v = VaultKit.vault("required int a;", "{a:1}");
        VaultKit.due("fault", VaultKit.schema(v, "required int b"), 14);
        VaultKit.due("too long", VaultKit.schema(v, " ".repeat(4001)), 4000);
        VaultKit.due("records stay", v.records(), 1);
        VaultKit.due("schema stays", VaultKit.record(v, "{a:2}"), -1);
        VaultKit.due("another schema", VaultKit.schema(v, "required int b;"), -1);
        VaultKit.due("no records then", v.records(), 0);
        VaultKit.due("the other one now", VaultKit.record(v, "{a:2}"), 1);
    }
}

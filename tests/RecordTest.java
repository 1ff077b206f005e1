/** Promises 5, 6, 7: records, and by which place what can't stand is told. */
public final class RecordTest {
    private static final String SCHEMA = "required int a;optional long l;repeated bool b;optional text t;"
            + "optional group g{required int x;repeated group h{optional int y;}}required bool z;";

    public static void main(String[] args) {
        good();
        names();
        values();
        texts();
        limits();
        counting();
        VaultKit.finish();
    }

    private static void place(String text, int want) {
        StripedVault v = VaultKit.vault(SCHEMA);
        VaultKit.due("record " + text, VaultKit.record(v, text), want);
        VaultKit.due("records behind " + text, v.records(), want == -1 ? 1 : 0);
    }

    private static void good() {
        place("{a:1,z:true}", -1);
        place(" {\na : -5 , l:9223372036854775807,b:[true , false],t:'x',g:{x:0,h:[{y:1},{}]},z:false} ", -1);
        place("{a:2147483647,b:[],z:true}", -1);
        place("{a:-2147483648,l:-9223372036854775808,g:{x:0,h:[]},z:true}", -1);
    }

    private static void names() {
        place("", 0);
        place("  ", 2);
        place("{", 1);
        place("{}", 1);
        place("{z:true}", 1);
        place("{a:1}", 4);
        place("{a:1,}", 5);
        place("{a:1,z:true,}", 12);
        place("{a:1,z:true,a:1}", 12);
        place("{a:1 z:true}", 5);
        place("{a:1,z:true}}", 12);
        place("{a:1,z:true} x", 13);
        place("{a:1,a:2,z:true}", 5);
        place("{a:1,t:'x',l:5,z:true}", 11);
        place("{a:1,aa:2,z:true}", 5);
        place("{a:1,5:2,z:true}", 5);
        place("{a 1}", 3);
        place("{a:1,g:{h:[]},z:true}", 8);
        place("{a:1,g:{},z:true}", 8);
        place("{a:1,g:{x:1,h:[{y:1,}]},z:true}", 20);
        place("{a:1,g:[{x:1}],z:true}", 7);
        place("{a:1,z:true", 11);
        place("{,a:1,z:true}", 1);
    }

    private static void values() {
        place("{a:01,z:true}", 3);
        place("{a:-0,z:true}", 3);
        place("{a:-01,z:true}", 3);
        place("{a:0,z:true}", -1);
        place("{a:-,z:true}", 3);
        place("{a:- 1,z:true}", 3);
        place("{a:-", 4);
        place("{a:- ", 3);
        place("{a:2147483648,z:true}", 3);
        place("{a:-2147483649,z:true}", 3);
        place("{a:1,l:9223372036854775808,z:true}", 7);
        place("{a:1,l:-9223372036854775809,z:true}", 7);
        place("{a:1,l:99999999999999999999999999,z:true}", 7);
        place("{a:1x,z:true}", 4);
        place("{a:'x',z:true}", 3);
        place("{a:'x", 3);
        place("{a:true,z:true}", 3);
        place("{a:1,b:true,z:true}", 7);
        place("{a:1,b:[1],z:true}", 8);
        place("{a:1,b:[true,],z:true}", 13);
        place("{a:1,b:[,true],z:true}", 8);
        place("{a:1,b:[true false],z:true}", 13);
        place("{a:1,b:[true", 12);
        place("{a:1,t:5,z:true}", 7);
        place("{a:1,t:x,z:true}", 7);
        place("{a:1,z:True}", 7);
        place("{a:1,z:truee}", 7);
        place("{a:1,z:-", 7);
        place("{a:1,z:'\u0001", 7);
        place("{a:[1],z:true}", 3);
        place("{a:\u00ff}", 3);
    }

    private static void texts() {
        place("{a:1,t:'',z:true}", -1);
        place("{a:1,t:'it\\'s \\\\ \\x00\\xff ~',z:true}", -1);
        place("{a:1,t:'a", 9);
        place("{a:1,t:'a\n',z:true}", 9);
        place("{a:1,t:'a\u007f',z:true}", 9);
        place("{a:1,t:'a\u00e9',z:true}", 9);
        place("{a:1,t:'ab\\q',z:true}", 10);
        place("{a:1,t:'ab\\x4',z:true}", 10);
        place("{a:1,t:'ab\\xA0',z:true}", 10);
        place("{a:1,t:'ab\\xg0',z:true}", 10);
        place("{a:1,t:'ab\\", 11);
        place("{a:1,t:'ab\\x", 12);
        place("{a:1,t:'ab\\x4", 13);
        place("{a:1,t:'ab\\x0", 13);
        place("{a:1,t:'ab\\x0'", 10);
        String most = "q".repeat(255);
        place("{a:1,t:'" + most + "',z:true}", -1);
        place("{a:1,t:'" + most + "q',z:true}", 8 + 255);
        place("{a:1,t:'" + most + "\\x41',z:true}", 8 + 255);
        place("{a:1,t:'" + "\\x41".repeat(255) + "',z:true}", -1);
    }

    private static void limits() {
        String good = "{a:1,z:true}";
        place(good + " ".repeat(4000 - good.length()), -1);
        place(good + " ".repeat(4001 - good.length()), 4000);
        StripedVault v = new StripedVault();
        VaultKit.due("no schema", VaultKit.record(v, "@".repeat(4001)), -2);

        // 10 columns of 999 groups and one entry each: 9990 entries, then 10 more, then one group too many.
        StringBuilder schema = new StringBuilder("repeated group g{");
        for (int k = 0; k < 10; k++) {
            schema.append("optional int c").append(k).append(";");
        }
        v = VaultKit.vault(schema + "}");
        VaultKit.due("9990 entries", VaultKit.record(v, "{g:[" + "{},".repeat(998) + "{}]}"), -1);
        VaultKit.due("20 more", VaultKit.record(v, "{g:[{},{}]}"), -2);
        VaultKit.due("a fault comes first", VaultKit.record(v, "{g:[{},{}]"), 10);
        VaultKit.due("10000 entries", VaultKit.record(v, "{}"), -1);
        VaultKit.due("one record more", VaultKit.record(v, "{}"), -2);
        VaultKit.due("records", v.records(), 2);
        v.clear();
        VaultKit.due("there is room again", VaultKit.record(v, "{}"), -1);

        // 3825 bytes a record: 15 of them are 57375, 2625 are left.
        v = VaultKit.vault("repeated text t;");
        String long15 = "{t:[" + ("'" + "q".repeat(255) + "',").repeat(14) + "'" + "q".repeat(255) + "']}";
        for (int k = 0; k < 15; k++) {
            VaultKit.due("record " + k, VaultKit.record(v, long15), -1);
        }
        VaultKit.due("too many bytes of texts", VaultKit.record(v, long15), -2);
        String long10 = "{t:[" + ("'" + "q".repeat(255) + "',").repeat(10);
        VaultKit.due("one byte too many", VaultKit.record(v, long10 + "'" + "q".repeat(76) + "']}"), -2);
        VaultKit.due("60000 bytes", VaultKit.record(v, long10 + "'" + "q".repeat(75) + "']}"), -1);
        VaultKit.due("no bytes more", VaultKit.record(v, "{t:['']}"), -1);
        VaultKit.due("records", v.records(), 17);
    }

    private static void counting() {
        StripedVault v = VaultKit.vault("optional int a;", "{}", "{a:1}");
        VaultKit.due("records", v.records(), 2);
        VaultKit.due("fault", VaultKit.record(v, "{a:}"), 3);
        VaultKit.due("records", v.records(), 2);
        v.clear();
        VaultKit.due("none", v.records(), 0);
        VaultKit.due("the schema stays", VaultKit.record(v, "{a:7}"), -1);
        VaultKit.due("one", v.records(), 1);
        VaultKit.due("row", VaultKit.show(VaultKit.opened(v, 1, 1), 0), "{a:7}");
    }
}

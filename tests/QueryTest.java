/** Promise 17: queries, and by which place what can't stand in them is told. */
public final class QueryTest {
    private static StripedVault vault;
    private static int calls;

    public static void main(String[] args) {
        paths();
        items();
        literals();
        tests();
        bys();
        ownWords();
        limits();
        stays();
        VaultKit.finish();
    }

    /** A new vault now and then: an object is used for at most 512 calls. */
    private static StripedVault vault() {
        calls += 140;
        if (vault == null || calls > 350) {
            vault = VaultKit.opened(VaultKit.vault("required int a;optional int b;optional text c;required bool d;"
                    + "optional group g{optional int x;repeated int y;required group count{required int z;}}"
                    + "repeated long r;optional long l;optional int p0;optional int p1;optional int p2;optional int p3;"
                    + "optional int p4;optional int p5;optional int p6;optional int p7;optional int p8;",
                    "{a:1,d:true}"), 10, 10);
            calls = 60;
        }
        return vault;
    }

    private static void place(String text, int want) {
        VaultKit.due("query " + text, VaultKit.query(vault(), text), want);
    }

    private static void paths() {
        place("select a. x", 9);
        place("select g. x", 9);
        place("select g.x", -1);
        place("select g .x", 9);
        place("select g.", 9);
        place("select g.5", 9);
        place("select g..x", 9);
        place("select g.count", 9);
        place("select g.count.z", 9);
        place("select zz.count", 10);
        place("select zz.q", 7);
        place("select zz.", 10);
        place("select g.x.", 11);
        place("select g.x.q", 7);
        place("select count.a", 12);
    }

    private static void items() {
        place("select sum", 10);
        place("select sum a", 11);
        place("select sum(", 11);
        place("select sum(c)", 11);
        place("select sum(d)", 11);
        place("select sum(g)", 11);
        place("select sum(r)", 11);
        place("select sum(g.y)", 11);
        place("select sum(l)", -1);
        place("select min(d),max(c),min(l)", -1);
        place("select count(g)", 13);
        place("select count()", 13);
        place("select", 6);
        place("", 0);
        place("  ", 2);
        place("select ", 7);
        place("select ,", 7);
        place("select a,", 9);
        place("select a b", 9);
        place("Select a", 0);
    }

    private static void literals() {
        place("select a where", 14);
        place("select a where a", 16);
        place("select a where a =", 18);
        place("select a where a = -", 20);
        place("select a where a = - 1", 19);
        place("select a where a = -0", 19);
        place("select a where a = 01", 19);
        place("select a where a = 9223372036854775807", -1);
        place("select a where a = 9223372036854775808", 19);
        place("select a where a = -9223372036854775808", -1);
        place("select a where a = -9223372036854775809", 19);
        place("select a where a < 3000000000", -1);
        place("select a where a = true", 19);
        place("select a where a = 'x'", 19);
        place("select a where a = 'x\u0001'", 21);
        place("select a where a = 'x", 21);
        place("select a where c = 'x\\", 22);
        place("select a where c = 'x\\x", 23);
        place("select a where c = 'x\\x4", 24);
        place("select a where c = 'x\\x4g'", 21);
        place("select a where c = 'x\\q'", 21);
        place("select a where c = 'x\\X41'", 21);
        place("select a where c = 5", 19);
        place("select a where d = true", -1);
        place("select a where d", 16);
        place("select a where d = 1", 19);
    }

    private static void tests() {
        place("select a where a = c", 19);
        place("select a where a = l", -1);
        place("select a where l<a", -1);
        place("select a where a = g", 19);
        place("select a where a = r", 19);
        place("select a where r = 1", 15);
        place("select a where g is null", 15);
        place("select a where a is", 19);
        place("select a where a is not", 23);
        place("select a where a is not nul", 24);
        place("select a where a is null null", 25);
        place("select a where a in", 19);
        place("select a where a in (", 21);
        place("select a where a in ()", 21);
        place("select a where a in (1", 22);
        place("select a where a in (1,", 23);
        place("select a where a in (1,)", 23);
        place("select a where a in (1 2)", 23);
        place("select a where a in (b)", 21);
        place("select a where a in (true)", 21);
        place("select a where a =< 1", 18);
        place("select a where a < = 1", 19);
        place("select a where a <> 1", -1);
        place("select a where a>< 1", 17);
        place("select a where a == 1", 18);
        place("select a where a ! 1", 17);
        place("select a where a=1or a=2and a=3", -1);
        place("select a where (a=1", 19);
        place("select a where a=1)", 18);
        place("select a where ()", 16);
        place("select a where not", 18);
        place("select a where not not a=1", -1);
        place("select a where null = a", 15);
        place("select a where a = null", 19);
        place("select a group", 14);
    }

    private static void bys() {
        place("select a group by", 17);
        place("select a group a", 15);
        place("select a group by a", -1);
        place("select a group by a,a", 20);
        place("select a group by a,", 20);
        place("select a,b group by a", 9);
        place("select b,a group by a", 7);
        place("select g group by a", 7);
        place("select a,count", 7);
        place("select count,a", 13);
        place("select a group by r", 18);
        place("select a group by g", 18);
        place("select g.x,count group by g.x", -1);
        place("select a group by a where a=1", 20);
        place("select a where a=1 group by a", -1);
        place("select a,count where a=1 or d=false group by d,a", -1);
        place("select a where a=1 group", 24);
        place("select a group by zz", 18);
        place("select a where a = a", -1);
        place("select a where b <> b", -1);
        place("select a where a<>a", -1);
        place("select r,g.y,r", -1);
        place("select g.count,a", 9);
        place("select abcdefghijklmnopq", 7);
    }

    /** All of them are names of a schema, but none of a query. */
    private static void ownWords() {
        String[] words = {"select", "where", "group", "by", "and", "or", "not", "is", "null", "in", "true", "false",
            "count", "sum", "min", "max"};
        StringBuilder schema = new StringBuilder("optional group g{required int x;");
        for (String word : words) {
            schema.append("optional int ").append(word).append(";");
        }
        StripedVault v = VaultKit.opened(VaultKit.vault(schema + "}optional int a;", "{}"), 1, 1);
        for (String word : words) {
            VaultKit.due("g." + word, VaultKit.query(v, "select g." + word), 9);
            VaultKit.due("a = g." + word, VaultKit.query(v, "select a where a = g." + word), 21);
        }
        VaultKit.due("g.x", VaultKit.query(v, "select g.x where g.x = a group by g.x"), -1);
        VaultKit.due("a.x", VaultKit.query(v, "select a.x"), 7);
        VaultKit.due("x", VaultKit.query(v, "select x"), 7);
        VaultKit.due("zz.a", VaultKit.query(v, "select zz.a"), 7);
        VaultKit.due("g.a", VaultKit.query(v, "select g.a"), 7);
    }

    private static String many(String one, String between, int count) {
        return one + (between + one).repeat(count - 1);
    }

    private static void limits() {
        place("select " + many("a", ",", 16), -1);
        place("select " + many("a", ",", 17), 7 + 32);
        place("select " + many("a", ",", 16) + ", zz", 7 + 33);
        place("select " + many("a", ",", 16) + ",", 7 + 32);
        String by8 = "select count group by p0,p1,p2,p3,p4,p5,p6,p7";
        place(by8, -1);
        place(by8 + ",p8", by8.length() + 1);
        place(by8 + ",zz", by8.length() + 1);
        place(by8 + ",", by8.length() + 1);

        String where = "select a where ";
        place(where + "not ".repeat(32) + "a=1", -1);
        place(where + "not ".repeat(33) + "a=1", 15 + 32 * 4);
        place(where + "(".repeat(32) + "a=1" + ")".repeat(32), -1);
        place(where + "(".repeat(33) + "a=1" + ")".repeat(33), 15 + 32);
        place(where + "(not ".repeat(16) + "a in (1)" + ")".repeat(16), -1);
        place(where + "(not ".repeat(16) + "(a in (1))" + ")".repeat(16), 15 + 16 * 5);
        place(where + many("(not(a=1))", "or", 16), -1);

        // Tests and what joins them: 2 n - 1 steps.
        place(where + many("a is null", " or ", 32), -1);
        place(where + many("a is null", " or ", 33), 15 + 32 * 13 - 3);
        place(where + many("a is null", " and ", 33), 15 + 32 * 14 - 4);
        place(where + "not " + many("a is null", " or ", 32), -1);
        place(where + "not not " + many("a is null", " or ", 32), 15 + 8 + 31 * 13 - 3);
        // A not is a step behind its test and before the or: the 65th is told by its own place.
        String most = where + many("a is null", " or ", 30);
        place(most + " or not not not not b is null", most.length() + 1);
        place(most + " or (not not not not b is null)", most.length() + 1);
        place(most + " or not not not b is null", -1);
        place(most + " or not not not not not b is null", most.length() + 4);
        place(most + " or not not not not not not b is null", most.length() + 8);
        // Behind an open parenthesis an or isn't a step yet: here the 65th one is a test.
        String deep = where + "(a is null or ".repeat(20);
        place(deep + many("a is null", " or ", 22), deep.length() + 22 * 13 - 4);
        place(deep + many("a is null", " or ", 23), deep.length() + 22 * 13);

        place(where + "a in (" + many("1", ",", 64) + ")", -1);
        place(where + "a in (" + many("1", ",", 65) + ")", 21 + 128);
        place(where + "a in (" + many("1", ",", 64) + ") or c = 'x", 21 + 127 + 1 + 11 - 1);
        place(where + "a in (" + many("1", ",", 64) + ") or c = 'x'", 21 + 127 + 1 + 8);
        place(where + "a in (" + many("1", ",", 64) + ") or a = b", -1);

        place(where + "c='" + "q".repeat(255) + "'", -1);
        place(where + "c='" + "q".repeat(256) + "'", 15 + 3 + 255);
        place(where + "c='" + "q".repeat(255) + "\\x41'", 15 + 3 + 255);
        place("select a" + " ".repeat(1992), -1);
        place("select a" + " ".repeat(1993), 2000);
        place("@".repeat(2001), 2000);
        place("@".repeat(2000), 0);
    }

    private static void stays() {
        StripedVault v = VaultKit.opened(VaultKit.vault("required int a;", "{a:1}", "{a:2}"), 10, 10);
        VaultKit.due("run without a query", v.run(), -1);
        VaultKit.due("query", VaultKit.query(v, "select a where a = 2"), -1);
        VaultKit.due("fault", VaultKit.query(v, "select b"), 7);
        VaultKit.due("the query before stays", v.run(), 1);
        VaultKit.due("row", v.row(0), 1);
        VaultKit.due("open", v.open(), 0);
        VaultKit.due("no query since it was opened", v.run(), -1);
        v.poke(0, 0);
        VaultKit.due("open", v.open(), 13);
        VaultKit.due("nothing open", VaultKit.query(v, "@".repeat(3000)), -2);
    }
}

/** Promises 18 to 23: the TRUTHS of conditions, rows, groups, and what is gathered of them. */
public final class RunTest {
    private static StripedVault towns() {
        return VaultKit.opened(VaultKit.vault("required int age;optional text town;optional bool member;"
                + "optional group more{optional long big;}",
                "{age:20}",
                "{age:21,town:'oslo',member:true,more:{big:9223372036854775807}}",
                "{age:22,town:'bern',member:false,more:{}}",
                "{age:23,town:'oslo',more:{big:1}}",
                "{age:24,town:'osl',member:true,more:{big:-5}}",
                "{age:21,town:'bern',member:true}"), 2, 4);
    }

    public static void main(String[] args) {
        comparisons();
        threeTruths();
        otherColumns();
        rows();
        gathering();
        groups();
        latestRun();
        tooManyGroups();
        VaultKit.finish();
    }

    /** The rows of which a condition is true, as digits. */
    private static void where(StripedVault v, String condition, String want) {
        VaultKit.due("query " + condition, VaultKit.query(v, "select age where " + condition), -1);
        int count = v.run();
        StringBuilder rows = new StringBuilder();
        for (int k = 0; k < count; k++) {
            rows.append(v.row(k));
        }
        VaultKit.due(condition, rows.toString(), want);
        VaultKit.due("row behind " + condition, v.row(count), -1);
    }

    private static void comparisons() {
        StripedVault v = towns();
        where(v, "age = 21", "15");
        where(v, "age <> 21", "0234");
        where(v, "age < 21", "0");
        where(v, "age <= 21", "015");
        where(v, "age > 22", "34");
        where(v, "age >= 22", "234");
        where(v, "age > 3000000000", "");
        where(v, "age in (20, 24, 9)", "04");
        where(v, "town = 'oslo'", "13");
        where(v, "town < 'oslo'", "245");
        where(v, "town > 'osl'", "13");
        where(v, "town in ('bern','')", "25");
        where(v, "member = true", "145");
        where(v, "member < true", "2");
        where(v, "member >= false", "1245");
        where(v, "more.big >= 1", "13");
        where(v, "more.big = -5", "4");
        v = towns();
        where(v, "town is null", "0");
        where(v, "town is not null", "12345");
        where(v, "more.big is null", "025");
        where(v, "age is null", "");
        where(v, "age is not null", "012345");
        StripedVault w = VaultKit.opened(VaultKit.vault("required text age;", "{age:'a'}", "{age:'\\xff'}", "{age:''}"), 9, 9);
        where(w, "age > 'b'", "1");
        where(w, "age <= 'a'", "02");
        where(w, "age = ''", "2");
    }

    private static void threeTruths() {
        StripedVault v = towns();
        where(v, "not town = 'oslo'", "245");
        where(v, "not (town = 'oslo' or town <> 'oslo')", "");
        where(v, "not town in ('bern')", "134");
        where(v, "member = true or age = 23", "1345");
        where(v, "member = true and age = 21", "15");
        where(v, "not (member = true and age = 23)", "01245");
        where(v, "not (member = true or age = 99)", "2");
        where(v, "not not member = false", "2");
        where(v, "age = 20 or age = 21 and town = 'bern'", "05");
        where(v, "(age = 20 or age = 21) and town = 'bern'", "5");
        where(v, "not age = 20 and not age = 21", "234");
        where(v, "member = true or member = false or member is null", "012345");
        v = towns();
        where(v, "(member = true)", "145");
        where(v, "not town is null and not member is null", "1245");
        where(v, "town = 'oslo' and member = true or not (age < 24 or town is null)", "14");
    }

    private static void otherColumns() {
        StripedVault v = VaultKit.opened(VaultKit.vault("required int age;optional long l;optional text t;optional text u;",
                "{age:1,l:1,t:'a',u:'b'}", "{age:2,l:1,t:'b',u:'b'}", "{age:3,t:'c',u:'b'}", "{age:-4,l:5,t:'a'}"), 2, 3);
        where(v, "age = l", "0");
        where(v, "age > l", "1");
        where(v, "l > age", "3");
        where(v, "l <> age", "13");
        where(v, "t < u", "0");
        where(v, "t >= u", "12");
        where(v, "not t = u", "02");
        where(v, "age = age", "0123");
        where(v, "l <> l", "");
    }

    private static void rows() {
        StripedVault v = towns();
        VaultKit.due("no run", v.row(0), -1);
        VaultKit.query(v, "select town");
        VaultKit.due("no run yet", v.row(0), -1);
        VaultKit.due("all", v.run(), 6);
        VaultKit.due("first", v.row(0), 0);
        VaultKit.due("last", v.row(5), 5);
        VaultKit.due("behind", v.row(6), -1);
        VaultKit.due("before", v.row(-1), -1);
        VaultKit.due("no groups", v.kind(0, 0), -1);
        VaultKit.due("no value", v.value(0, 0), 0);
        VaultKit.due("no letter", v.letter(0, 0, 0), -1);
    }

    private static void item(StripedVault v, int k, int item, int kind, long value, String text) {
        String what = "group " + k + ", item " + item;
        VaultKit.due(what + ": kind", v.kind(k, item), kind);
        VaultKit.due(what + ": value", v.value(k, item), value);
        StringBuilder letters = new StringBuilder();
        for (int i = 0; v.letter(k, item, i) != -1; i++) {
            letters.append((char) v.letter(k, item, i));
        }
        VaultKit.due(what + ": text", letters.toString(), text);
        VaultKit.due(what + ": before", v.letter(k, item, -1), -1);
    }

    private static void gathering() {
        StripedVault v = towns();
        VaultKit.query(v, "select count,count(town),sum(age),min(town),max(town),min(member),max(member),sum(more.big),"
                + "min(more.big),max(age)");
        VaultKit.due("one group", v.run(), 1);
        item(v, 0, 0, 2, 6, "");
        item(v, 0, 1, 2, 5, "");
        item(v, 0, 2, 2, 131, "");
        item(v, 0, 3, 3, 0, "bern");
        item(v, 0, 4, 3, 0, "oslo");
        item(v, 0, 5, 1, 0, "");
        item(v, 0, 6, 1, 1, "");
        item(v, 0, 7, 2, 9223372036854775807L - 4, "");
        item(v, 0, 8, 2, -5, "");
        item(v, 0, 9, 2, 24, "");
        VaultKit.due("no such item", v.kind(0, 10), -1);
        VaultKit.due("no such item", v.kind(0, -1), -1);
        VaultKit.due("no such group", v.kind(1, 0), -1);
        VaultKit.due("no such group", v.kind(-1, 0), -1);
        VaultKit.due("no rows", v.row(0), -1);
        VaultKit.due("no records", v.answer(0), -1);

        VaultKit.query(v, "select count,count(town),sum(age),min(town),max(member) where age > 99");
        VaultKit.due("one group of none", v.run(), 1);
        item(v, 0, 0, 2, 0, "");
        item(v, 0, 1, 2, 0, "");
        item(v, 0, 2, 0, 0, "");
        item(v, 0, 3, 0, 0, "");
        item(v, 0, 4, 0, 0, "");

        StripedVault w = VaultKit.opened(VaultKit.vault("required long l;", "{l:9223372036854775807}", "{l:1}"), 9, 9);
        VaultKit.query(w, "select sum(l)");
        VaultKit.due("run", w.run(), 1);
        item(w, 0, 0, 2, Long.MIN_VALUE, "");
    }

    private static void groups() {
        StripedVault v = towns();
        VaultKit.query(v, "select town,count,max(age) group by town");
        VaultKit.due("groups", v.run(), 4);
        item(v, 0, 0, 0, 0, "");
        item(v, 0, 1, 2, 1, "");
        item(v, 1, 0, 3, 0, "oslo");
        item(v, 1, 1, 2, 2, "");
        item(v, 1, 2, 2, 23, "");
        item(v, 2, 0, 3, 0, "bern");
        item(v, 2, 2, 2, 22, "");
        item(v, 3, 0, 3, 0, "osl");
        VaultKit.query(v, "select member,town where town <> 'osl' group by town,member");
        VaultKit.due("groups of two", v.run(), 4);
        item(v, 0, 0, 1, 1, "");
        item(v, 0, 1, 3, 0, "oslo");
        item(v, 1, 0, 1, 0, "");
        item(v, 1, 1, 3, 0, "bern");
        item(v, 2, 0, 0, 0, "");
        item(v, 2, 1, 3, 0, "oslo");
        item(v, 3, 0, 1, 1, "");
        VaultKit.query(v, "select count group by age");
        VaultKit.due("no path at all", v.run(), 5);
        VaultKit.query(v, "select age where age > 99 group by age");
        VaultKit.due("no groups of none", v.run(), 0);
        VaultKit.due("none", v.kind(0, 0), -1);
    }

    private static void latestRun() {
        StripedVault v = towns();
        VaultKit.query(v, "select age where age = 24");
        v.run();
        VaultKit.query(v, "select count");
        VaultKit.due("another query isn't a run", v.row(0), 4);
        VaultKit.due("run", v.run(), 1);
        VaultKit.due("now it is", v.row(0), -1);
        VaultKit.due("value", v.value(0, 0), 6);
        VaultKit.due("open", v.open(), 0);
        VaultKit.due("since it was opened", v.kind(0, 0), -1);
        VaultKit.due("run", v.run(), -1);
    }

    private static void tooManyGroups() {
        int rows = 1000;
        byte[] page = VaultKit.page(VaultKit.cat(VaultKit.varint(rows), 0, 1, 0, VaultKit.varint(2 * (rows - 1))), code(rows));
        byte[] footer = VaultKit.cat(1, 3, 0, 1, "a", VaultKit.varint(rows), 1, VaultKit.varint(rows),
                VaultKit.varint(page.length), 1, VaultKit.varint(rows), 0, 0, VaultKit.varint(2 * (rows - 1)));
        StripedVault v = VaultKit.taken(VaultKit.frame(page, footer));
        VaultKit.due("open", v.open(), 0);
        VaultKit.query(v, "select count,a where a < 500 group by a");
        VaultKit.due("500 groups", v.run(), 500);
        VaultKit.due("the last one", v.value(499, 1), 499);
        VaultKit.query(v, "select a where a <= 500 group by a");
        VaultKit.due("501 groups", v.run(), -1);
        VaultKit.due("the run before stays", v.kind(0, 1), 2);
        VaultKit.due("the run before stays", v.value(499, 1), 499);
    }

    /** The CODE of 0, 1, 2 .. */
    private static byte[] code(int rows) {
        byte[] code = VaultKit.cat(VaultKit.varint(rows), 0);
        for (int from = 1; from < rows; from += 64) {
            code = VaultKit.cat(code, 2, 0, 0, 0, 0);
        }
        return code;
    }
}

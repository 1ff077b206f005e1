/** Promises 16, 18 to 23 and 25: rows, answers and groups at the last case that still can be and at the first one that can't. */
public final class EdgeAnswerTest {
    private static final int LOWEST = Integer.MIN_VALUE;
    private static final int HIGHEST = Integer.MAX_VALUE;

    public static void main(String[] args) {
        rowsThatAreShown();
        bytesOfTheOutput();
        longestOutput();
        noQuery();
        answersOfNone();
        recordsOfAnAnswer();
        manyGroups();
        groupsOfTexts();
        groupsOfSeveral();
        noneIsOneValueMore();
        oneGroupOfAll();
        sums();
        leastAndGreatest();
        kindsOfItems();
        lettersOfTexts();
        itemsThatAreNone();
        latestRun();
        someFields();
        VaultKit.finish();
    }

    private static StripedVault three() {
        return VaultKit.opened(VaultKit.vault("required int a;optional text t;repeated int r;optional group g{optional bool b;optional long l;}",
                "{a:1,t:'one'}", "{a:2,r:[7,8],g:{}}", "{a:3,t:'',g:{b:true,l:-5}}"), 2, 2);
    }

    private static void query(StripedVault v, String text) {
        VaultKit.due("query " + text, VaultKit.query(v, text), -1);
    }

    /** "NONE (and no output) if there is none such". */
    private static void rowsThatAreShown() {
        StripedVault v = three();
        int[] none = {-1, 3, 4, 2000, LOWEST, HIGHEST};
        for (int row : none) {
            VaultKit.due("a row", v.show(0), 13);
            VaultKit.due("its output", v.output(12), '}');
            VaultKit.due("show(" + row + ")", v.show(row), -1);
            VaultKit.due("no output", v.output(0), -1);
        }
        VaultKit.due("the first one", VaultKit.show(v, 0), "{a:1,t:'one'}");
        VaultKit.due("the last one", VaultKit.show(v, 2), "{a:3,t:'',g:{b:true,l:-5}}");
        VaultKit.due("nothing open", new StripedVault().show(0), -1);
    }

    /** "A byte (0 .. 255) of the output, which show and answer alone make anew; NONE if there is none". */
    private static void bytesOfTheOutput() {
        StripedVault v = three();
        int[] always = {-1, LOWEST, HIGHEST, 100000};
        for (int k : always) {
            VaultKit.due("no output yet", v.output(k), -1);
        }
        VaultKit.due("no output yet", v.output(0), -1);
        VaultKit.due("show", v.show(0), 13);
        for (int k : always) {
            VaultKit.due("output(" + k + ")", v.output(k), -1);
        }
        VaultKit.due("the first one", v.output(0), '{');
        VaultKit.due("the last one", v.output(12), '}');
        VaultKit.due("behind it", v.output(13), -1);
        VaultKit.due("a longer one", v.show(2), 26);
        VaultKit.due("its last one", v.output(25), '}');
        VaultKit.due("a shorter one", v.show(0), 13);
        VaultKit.due("behind it", v.output(13), -1);
        query(v, "select a");
        VaultKit.due("run", v.run(), 3);
        v.write(1, 1);
        v.clear();
        v.take();
        v.open();
        VaultKit.due("it stays", VaultKit.output(v), "{a:1,t:'one'}");
    }

    /** A row of two columns of texts of 255 bytes that take 1020 each, and one of so many bytes in the output. */
    private static byte[] longRow(int last) {
        byte[] told = VaultKit.sized("\u0000".repeat(255));
        byte[] file = new byte[0];
        byte[] footer = VaultKit.cat(3, 11, 0, 1, "a", 11, 0, 1, "b", 9, 0, 1, "c", 1, 1, 1);
        int[] counts = {60, 37};
        for (int count : counts) {
            byte[] page = VaultKit.page(VaultKit.cat(count, 0, 3, told, told), VaultKit.sized(2, 0, VaultKit.same(1, 1, count - 1)),
                    VaultKit.sized(VaultKit.same(1, 1, count)), 1, told, 0, VaultKit.varint(2L * count));
            file = VaultKit.cat(file, page);
            footer = VaultKit.cat(footer, VaultKit.varint(page.length), 1, count, 0, told, told);
        }
        byte[] text = VaultKit.sized("\u0000".repeat(180) + "q".repeat(last - 720));
        byte[] page = VaultKit.page(VaultKit.cat(1, 0, 0, text, text), text);
        return VaultKit.frame(VaultKit.cat(file, page), footer, VaultKit.varint(page.length), 1, 1, 0, text, text);
    }

    /** "it would be longer than 100000 bytes". */
    private static void longestOutput() {
        // {a:[ .. ],b:[ .. ],c:' .. '}: 97 texts of 1022 bytes, 95 commas between them.
        int around = 16 + 97 * 1022 + 95;
        int left = 100000 - around;
        VaultKit.due("the last text", left > 720 && left < 790, true);
        for (int more = -1; more <= 2; more++) {
            StripedVault v = VaultKit.taken(longRow(left + more));
            VaultKit.due("open", v.open(), 0);
            int want = more <= 0 ? 100000 + more : -1;
            VaultKit.due("show " + more, v.show(0), want);
            VaultKit.due("the last byte", v.output(99999 + more), more <= 0 ? '}' : -1);
            VaultKit.due("the first byte", v.output(0), more <= 0 ? '{' : -1);
            query(v, "select c,b,a");
            VaultKit.due("run", v.run(), 1);
            VaultKit.due("answer " + more, v.answer(0), want);
            VaultKit.due("the first byte", v.output(0), more <= 0 ? '{' : -1);
            query(v, "select a,b");
            VaultKit.due("run", v.run(), 1);
            VaultKit.due("some fields", v.answer(0), around - 5);
        }
    }

    /** "NONE if there is none such (since it was opened)". */
    private static void noQuery() {
        StripedVault v = three();
        VaultKit.due("no query", v.run(), -1);
        VaultKit.due("a query with a fault", VaultKit.query(v, "select"), 6);
        VaultKit.due("no query", v.run(), -1);
        query(v, "select a");
        VaultKit.due("run", v.run(), 3);
        VaultKit.due("run again", v.run(), 3);
        VaultKit.due("open", v.open(), 0);
        VaultKit.due("no query since", v.run(), -1);
        VaultKit.due("no row since", v.row(0), -1);
        VaultKit.due("no answer since", v.answer(0), -1);
        query(v, "select count");
        VaultKit.due("no group yet", v.kind(0, 0), -1);
        VaultKit.due("run", v.run(), 1);
        VaultKit.due("open", v.open(), 0);
        VaultKit.due("no group since", v.kind(0, 0), -1);
        VaultKit.due("no value since", v.value(0, 0), 0);
        VaultKit.due("no letter since", v.letter(0, 0, 0), -1);
    }

    private static void answersOfNone() {
        StripedVault v = three();
        query(v, "select a where a > 3");
        VaultKit.due("none", v.run(), 0);
        VaultKit.due("no row", v.row(0), -1);
        VaultKit.due("no record", v.answer(0), -1);
        VaultKit.due("no output", v.output(0), -1);
        query(v, "select a where a > 3 group by a");
        VaultKit.due("no groups", v.run(), 0);
        VaultKit.due("no group", v.kind(0, 0), -1);
        VaultKit.due("no value", v.value(0, 0), 0);
        VaultKit.due("no letter", v.letter(0, 0, 0), -1);
        // Nor of a file without rows.
        v = VaultKit.opened(VaultKit.vault("required int a;"), 1, 1);
        query(v, "select a");
        VaultKit.due("none", v.run(), 0);
        query(v, "select a group by a");
        VaultKit.due("no groups", v.run(), 0);
        query(v, "select count,sum(a)");
        VaultKit.due("one group of all", v.run(), 1);
        VaultKit.due("count", v.value(0, 0), 0);
        VaultKit.due("sum", v.kind(0, 1), 0);
    }

    /** "a record's row (NONE if its query COLLECTS), by its number in the ANSWER; NONE if there is none such". */
    private static void recordsOfAnAnswer() {
        StripedVault v = three();
        query(v, "select a where t is not null");
        VaultKit.due("run", v.run(), 2);
        int[] none = {-1, 2, 3, LOWEST, HIGHEST};
        for (int k : none) {
            VaultKit.due("row(" + k + ")", v.row(k), -1);
            VaultKit.due("answer", v.answer(1), 5);
            VaultKit.due("answer(" + k + ")", v.answer(k), -1);
            VaultKit.due("no output", v.output(0), -1);
        }
        VaultKit.due("the first one", v.row(0), 0);
        VaultKit.due("the last one", v.row(1), 2);
        for (int k = -1; k < 3; k++) {
            VaultKit.due("no groups", v.kind(k, 0), -1);
            VaultKit.due("no groups", v.value(k, 0), 0);
            VaultKit.due("no groups", v.letter(k, 0, 0), -1);
        }
        query(v, "select a group by a");
        VaultKit.due("run", v.run(), 3);
        for (int k = -1; k < 4; k++) {
            VaultKit.due("it COLLECTS", v.row(k), -1);
            VaultKit.due("it COLLECTS", v.answer(k), -1);
        }
    }

    /** A file of two columns: a is 0, 1, 2 .., b is a of the row modulo some number; b may be none in the last row. */
    private static StripedVault numbered(int rows, int modulo) {
        long[] a = new long[rows];
        long[] b = new long[rows];
        for (int k = 0; k < rows; k++) {
            a[k] = k;
            b[k] = k % modulo;
        }
        byte[] count = VaultKit.varint(rows);
        byte[] most = VaultKit.varint(VaultKit.zigzag(rows - 1));
        byte[] less = VaultKit.varint(VaultKit.zigzag(Math.min(rows, modulo) - 1));
        byte[] first = VaultKit.page(VaultKit.cat(count, 0, 1, 0, most), VaultKit.code(a));
        byte[] second = VaultKit.page(VaultKit.cat(count, 0, 1, 0, less), VaultKit.code(b));
        StripedVault v = VaultKit.taken(VaultKit.frame(VaultKit.cat(first, second), 2, 3, 0, 1, "a", 6, 0, 1, "b", count, 1, count,
                VaultKit.varint(first.length), 1, count, 0, 0, most, VaultKit.varint(second.length), 1, count, 0, 0, less));
        VaultKit.due("open", v.open(), 0);
        return v;
    }

    /** "at most 500", "or more than 500 GROUPS". */
    private static void manyGroups() {
        StripedVault v = numbered(1000, 500);
        query(v, "select b,count,min(a),max(a) group by b");
        VaultKit.due("500 groups of two", v.run(), 500);
        for (int k = 0; k < 500; k += 7) {
            VaultKit.due("b", v.value(k, 0), k);
            VaultKit.due("count", v.value(k, 1), 2);
            VaultKit.due("min", v.value(k, 2), k);
            VaultKit.due("max", v.value(k, 3), k + 500);
        }
        VaultKit.due("the last one", v.value(499, 3), 999);
        VaultKit.due("one more", v.kind(500, 0), -1);
        v = numbered(1000, 501);
        query(v, "select b,count where a < 500 group by b");
        VaultKit.due("500 groups", v.run(), 500);
        query(v, "select count,b where a <= 500 group by b");
        VaultKit.due("501 groups", v.run(), -1);
        VaultKit.due("of the run before", v.value(499, 0), 499);
        VaultKit.due("of the run before", v.value(499, 1), 1);
        query(v, "select b,a where a < 500 group by b,a");
        VaultKit.due("500 groups by two", v.run(), 500);
        query(v, "select b,a group by b,a");
        VaultKit.due("1000 groups by two", v.run(), -1);
        query(v, "select a");
        VaultKit.due("1000 records", v.run(), 1000);
        VaultKit.due("the last one", v.row(999), 999);
        VaultKit.due("one more", v.row(1000), -1);
        query(v, "select count");
        VaultKit.due("one group of 1000", v.run(), 1);
        VaultKit.due("count", v.value(0, 0), 1000);
    }

    private static void groupsOfTexts() {
        // 255 texts of up to three bytes, each twice, one of them that another begins with.
        StripedVault v = VaultKit.vault("repeated group g{optional int x;}optional text t;");
        String[] texts = {"", "a", "aa", "ab", "b", "ba", "\\x00", "\\x00\\x00", "\\xff", "a\\x00", "A", "aaa"};
        for (int k = 0; k < 36; k++) {
            VaultKit.due("record", VaultKit.record(v, "{t:'" + texts[k * 5 % 12] + "'}"), -1);
        }
        VaultKit.opened(v, 7, 11);
        query(v, "select t,count group by t");
        VaultKit.due("groups", v.run(), 12);
        for (int k = 0; k < 12; k++) {
            VaultKit.due("count", v.value(k, 1), 3);
            String text = texts[k * 5 % 12].replace("\\x00", "\u0000").replace("\\xff", "\u00ff");
            for (int i = 0; i < text.length(); i++) {
                VaultKit.due("letter", v.letter(k, 0, i), text.charAt(i));
            }
            VaultKit.due("behind it", v.letter(k, 0, text.length()), -1);
        }
    }

    private static void groupsOfSeveral() {
        StripedVault v = VaultKit.vault("optional int a;optional int b;optional bool c;");
        String[] parts = {"", "a:0,", "a:1,"};
        String[] others = {"", "b:0,", "b:1,"};
        String[] bools = {"", "c:true,", "c:false,"};
        for (int k = 0; k < 54; k++) {
            String text = "{" + parts[k % 3] + others[k / 3 % 3] + bools[k / 9 % 3];
            VaultKit.due("record", VaultKit.record(v, (text.endsWith(",") ? text.substring(0, text.length() - 1) : text) + "}"), -1);
        }
        VaultKit.opened(v, 5, 20);
        String[] bys = {"a", "a,b", "b,a", "c,a", "a,b,c", "c,b,a"};
        int[] want = {3, 9, 9, 9, 27, 27};
        for (int k = 0; k < bys.length; k++) {
            query(v, "select count,count(a),sum(b) group by " + bys[k]);
            VaultKit.due("groups by " + bys[k], v.run(), want[k]);
            long all = 0;
            for (int n = 0; n < want[k]; n++) {
                VaultKit.due("count", v.value(n, 0), 54 / want[k]);
                all += v.value(n, 1);
            }
            VaultKit.due("all that have a", all, 36);
        }
        query(v, "select c,b,a group by a,b,c");
        VaultKit.due("groups", v.run(), 27);
        for (int n = 0; n < 27; n++) {
            VaultKit.due("a", v.kind(n, 2), n % 3 == 0 ? 0 : 2);
            VaultKit.due("a", v.value(n, 2), n % 3 == 2 ? 1 : 0);
            VaultKit.due("b", v.kind(n, 1), n / 3 % 3 == 0 ? 0 : 2);
            VaultKit.due("c", v.kind(n, 0), n / 9 == 0 ? 0 : 1);
            VaultKit.due("c", v.value(n, 0), n / 9 == 1 ? 1 : 0);
        }
    }

    /** "the same values (or none, which is like one value more)": it is one of the 500, too. */
    private static void noneIsOneValueMore() {
        for (int more = 0; more <= 1; more++) {
            int values = 499 + more;
            long[] a = new long[values];
            for (int k = 0; k < values; k++) {
                a[k] = k;
            }
            byte[] count = VaultKit.varint(values + 1);
            byte[] bounds = VaultKit.cat(0, VaultKit.varint(VaultKit.zigzag(values - 1)));
            byte[] page = VaultKit.page(VaultKit.cat(count, 1, 1, bounds),
                    VaultKit.sized(VaultKit.same(1, 1, values), VaultKit.same(1, 0, 1)), VaultKit.code(a));
            StripedVault v = VaultKit.taken(VaultKit.frame(page, 1, 4, 0, 1, "a", count, 1, count, VaultKit.varint(page.length), 1, count, 1, bounds));
            VaultKit.due("open", v.open(), 0);
            query(v, "select a group by a");
            VaultKit.due(values + " values and none", v.run(), more == 0 ? 500 : -1);
            VaultKit.due("none", v.kind(499, 0), more == 0 ? 0 : -1);
            VaultKit.due("the last value", v.value(498, 0), more == 0 ? 498 : 0);
            query(v, "select a where a is not null group by a");
            VaultKit.due(values + " values", v.run(), values);
        }
    }

    private static void oneGroupOfAll() {
        StripedVault v = three();
        query(v, "select count,count(t),count(g.b),count(g.l)");
        VaultKit.due("one", v.run(), 1);
        long[] want = {3, 2, 1, 1};
        for (int k = 0; k < 4; k++) {
            VaultKit.due("kind", v.kind(0, k), 2);
            VaultKit.due("count", v.value(0, k), want[k]);
        }
        query(v, "select count,count(t),sum(a),min(t),max(g.b),sum(g.l) where a > 99");
        VaultKit.due("one of none", v.run(), 1);
        int[] kinds = {2, 2, 0, 0, 0, 0};
        for (int k = 0; k < 6; k++) {
            VaultKit.due("kind", v.kind(0, k), kinds[k]);
            VaultKit.due("value", v.value(0, k), 0);
            VaultKit.due("letter", v.letter(0, k, 0), -1);
        }
    }

    private static void sum(String type, long want, long... values) {
        StripedVault v = VaultKit.vault("required " + type + " a;");
        for (long value : values) {
            VaultKit.due("record", VaultKit.record(v, "{a:" + value + "}"), -1);
        }
        VaultKit.opened(v, 2, 3);
        query(v, "select sum(a)");
        VaultKit.due("run", v.run(), 1);
        VaultKit.due("kind", v.kind(0, 0), 2);
        VaultKit.due("sum", v.value(0, 0), want);
    }

    /** "sum of their values, modulo 2 to the 64". */
    private static void sums() {
        long highest = Long.MAX_VALUE;
        long lowest = Long.MIN_VALUE;
        sum("long", highest, highest);
        sum("long", lowest, lowest);
        sum("long", highest, highest - 1, 1);
        sum("long", lowest, highest, 1);
        sum("long", highest, lowest, -1);
        sum("long", 0, lowest, lowest);
        sum("long", -2, highest, highest);
        sum("long", -1, highest, lowest);
        sum("long", lowest + 5, highest, 3, 3);
        sum("int", 4294967294L, 2147483647, 2147483647);
        sum("int", -4294967296L, -2147483648, -2147483648);
        sum("int", 0, -5, 5);
        sum("int", 0, 0);
    }

    /** "min, max of them: none if none has a value". */
    private static void leastAndGreatest() {
        StripedVault v = VaultKit.opened(VaultKit.vault("optional long l;optional text t;optional bool b;optional int n;required int k;",
                "{k:1}", "{l:9223372036854775807,t:'b',b:true,k:1}", "{l:-9223372036854775808,t:'',b:true,k:2}", "{l:0,t:'\\xff',b:false,k:2}",
                "{t:'bb',k:1}"), 2, 2);
        query(v, "select min(l),max(l),min(t),max(t),min(b),max(b),min(n),max(n),min(k)");
        VaultKit.due("run", v.run(), 1);
        VaultKit.due("min", v.value(0, 0), Long.MIN_VALUE);
        VaultKit.due("max", v.value(0, 1), Long.MAX_VALUE);
        VaultKit.due("min of texts", v.kind(0, 2), 3);
        VaultKit.due("min of texts is an empty one", v.letter(0, 2, 0), -1);
        VaultKit.due("max of texts", v.letter(0, 3, 0), 255);
        VaultKit.due("min of bools", v.kind(0, 4), 1);
        VaultKit.due("min of bools", v.value(0, 4), 0);
        VaultKit.due("max of bools", v.value(0, 5), 1);
        VaultKit.due("min of none", v.kind(0, 6), 0);
        VaultKit.due("max of none", v.kind(0, 7), 0);
        query(v, "select k,min(l),max(t),min(b),count(l) group by k");
        VaultKit.due("groups", v.run(), 2);
        VaultKit.due("min", v.value(0, 1), Long.MAX_VALUE);
        VaultKit.due("min", v.value(1, 1), Long.MIN_VALUE);
        VaultKit.due("max", v.letter(0, 2, 1), 'b');
        VaultKit.due("max", v.letter(1, 2, 0), 255);
        VaultKit.due("min", v.value(0, 3), 1);
        VaultKit.due("min", v.value(1, 3), 0);
        VaultKit.due("count", v.value(0, 4), 1);
        query(v, "select t,min(l) where l is null group by t");
        VaultKit.due("groups", v.run(), 2);
        VaultKit.due("of none", v.kind(0, 1), 0);
        VaultKit.due("of none", v.kind(1, 1), 0);
        VaultKit.due("none", v.kind(0, 0), 0);
        VaultKit.due("a text", v.kind(1, 0), 3);
    }

    /** "0 none, 1 a bool, 2 a number, 3 a text"; "Such a number, or 1 of true; 0 of others". */
    private static void kindsOfItems() {
        StripedVault v = VaultKit.opened(VaultKit.vault("optional bool b;optional int i;optional long l;optional text t;",
                "{b:true,i:-7,l:8,t:'9'}", "{b:false,i:0,l:-1,t:''}", "{}"), 9, 9);
        query(v, "select b,i,l,t,count group by b,i,l,t");
        VaultKit.due("groups", v.run(), 3);
        int[][] kinds = {{1, 2, 2, 3, 2}, {1, 2, 2, 3, 2}, {0, 0, 0, 0, 2}};
        long[][] values = {{1, -7, 8, 0, 1}, {0, 0, -1, 0, 1}, {0, 0, 0, 0, 1}};
        for (int k = 0; k < 3; k++) {
            for (int item = 0; item < 5; item++) {
                VaultKit.due("kind " + k + " " + item, v.kind(k, item), kinds[k][item]);
                VaultKit.due("value " + k + " " + item, v.value(k, item), values[k][item]);
                VaultKit.due("letter " + k + " " + item, v.letter(k, item, 0), k == 0 && item == 3 ? '9' : -1);
                VaultKit.due("letter behind", v.letter(k, item, 1), -1);
            }
        }
    }

    /** "A byte of such a text; NONE if there is none". */
    private static void lettersOfTexts() {
        String most = "\\x80".repeat(127) + "m".repeat(128);
        StripedVault v = VaultKit.opened(VaultKit.vault("required text t;", "{t:'" + most + "'}", "{t:'z'}"), 9, 9);
        query(v, "select t,max(t),min(t) group by t");
        VaultKit.due("groups", v.run(), 2);
        for (int item = 0; item < 3; item++) {
            VaultKit.due("first", v.letter(0, item, 0), 128);
            VaultKit.due("127th", v.letter(0, item, 126), 128);
            VaultKit.due("128th", v.letter(0, item, 127), 'm');
            VaultKit.due("last", v.letter(0, item, 254), 'm');
            int[] none = {-1, 255, 256, LOWEST, HIGHEST};
            for (int i : none) {
                VaultKit.due("letter " + i, v.letter(0, item, i), -1);
            }
            VaultKit.due("first", v.letter(1, item, 0), 'z');
            VaultKit.due("behind", v.letter(1, item, 1), -1);
        }
    }

    /** "NONE if there is none such": k, item and i below 0 or too large. */
    private static void itemsThatAreNone() {
        StripedVault v = three();
        query(v, "select a,t,count group by a,t");
        VaultKit.due("groups", v.run(), 3);
        int[] groups = {-1, 3, 4, 499, 500, LOWEST, HIGHEST};
        int[] items = {-1, 3, 4, 15, 16, LOWEST, HIGHEST};
        for (int k : groups) {
            for (int item : new int[] {-1, 0, 2, 3, 16}) {
                VaultKit.due("kind(" + k + ", " + item + ")", v.kind(k, item), -1);
                VaultKit.due("value(" + k + ", " + item + ")", v.value(k, item), 0);
                VaultKit.due("letter(" + k + ", " + item + ")", v.letter(k, item, 0), -1);
            }
        }
        for (int item : items) {
            for (int k = 0; k < 3; k++) {
                VaultKit.due("kind(" + k + ", " + item + ")", v.kind(k, item), -1);
                VaultKit.due("value(" + k + ", " + item + ")", v.value(k, item), 0);
                VaultKit.due("letter(" + k + ", " + item + ")", v.letter(k, item, 0), -1);
            }
        }
        query(v, "select " + "count,".repeat(15) + "max(t)");
        VaultKit.due("run", v.run(), 1);
        VaultKit.due("the last item", v.kind(0, 15), 3);
        VaultKit.due("its letter", v.letter(0, 15, 2), 'e');
        VaultKit.due("the last but one", v.value(0, 14), 3);
        VaultKit.due("one more", v.kind(0, 16), -1);
        VaultKit.due("no such group", v.kind(1, 0), -1);
    }

    /** "Of the latest run that wasn't NONE". */
    private static void latestRun() {
        StripedVault v = numbered(501, 600);
        query(v, "select b,a where a = 500");
        VaultKit.due("run", v.run(), 1);
        query(v, "select count group by a");
        VaultKit.due("501 groups", v.run(), -1);
        VaultKit.due("row", v.row(0), 500);
        VaultKit.due("answer", v.answer(0), 13);
        VaultKit.due("output", VaultKit.output(v), "{a:500,b:500}");
        query(v, "select a");
        VaultKit.due("another query, not run", v.answer(0), 13);
        VaultKit.due("run", v.run(), 501);
        VaultKit.due("row", v.row(0), 0);
        VaultKit.due("answer", v.answer(500), 7);
        query(v, "select sum(a)");
        VaultKit.due("run", v.run(), 1);
        VaultKit.due("no row", v.row(0), -1);
        VaultKit.due("sum", v.value(0, 0), 125250);
        query(v, "select a group by a");
        VaultKit.due("501 groups", v.run(), -1);
        VaultKit.due("sum", v.value(0, 0), 125250);
        VaultKit.due("one item", v.kind(0, 1), -1);
    }

    private static void fields(StripedVault v, String items, String want) {
        query(v, "select " + items);
        VaultKit.due("run", v.run(), 1);
        VaultKit.due("answer", v.answer(0), want.length());
        VaultKit.due(items, VaultKit.output(v), want);
    }

    /** "the fields alone that are, or lie in, ITEMS of the query that was run (and groups around these)". */
    private static void someFields() {
        String schema = "required int a;optional group g{optional int b;repeated group h{required int c;optional int d;}}repeated group k{repeated int e;required int f;}";
        String record = "{a:1,g:{h:[{c:1,d:2},{c:3}]},k:[{f:1},{e:[5,6],f:2}]}";
        StripedVault v = VaultKit.opened(VaultKit.vault(schema, record), 9, 9);
        fields(v, "a", "{a:1}");
        fields(v, "g", "{g:{h:[{c:1,d:2},{c:3}]}}");
        fields(v, "g.b", "{g:{}}");
        fields(v, "g.h", "{g:{h:[{c:1,d:2},{c:3}]}}");
        fields(v, "g.h.d", "{g:{h:[{d:2},{}]}}");
        fields(v, "k.e", "{k:[{},{e:[5,6]}]}");
        v = VaultKit.opened(VaultKit.vault(schema, record), 9, 9);
        fields(v, "k.f,g.h.c", "{g:{h:[{c:1},{c:3}]},k:[{f:1},{f:2}]}");
        fields(v, "k,k.e,a,a", "{a:1,k:[{f:1},{e:[5,6],f:2}]}");
        fields(v, "a,g,k", record);
        v = VaultKit.opened(VaultKit.vault(schema, "{a:1}"), 9, 9);
        fields(v, "g,k", "{}");
        fields(v, "k.e", "{}");
    }
}

/** Promise 24: groups of rows and STRETCHES that are SKIPPED, by what chunks and pages tell. */
public final class SkipTest {
    public static void main(String[] args) {
        groupsAndStretches();
        operators();
        nulls();
        truths();
        otherColumns();
        dictionaries();
        pagesOfTwoColumns();
        latestRun();
        VaultKit.finish();
    }

    private static void skips(StripedVault v, String condition, int groups, int stretches) {
        VaultKit.due("query " + condition, VaultKit.query(v, "select a where " + condition), -1);
        VaultKit.due("run " + condition, v.run() >= 0, true);
        VaultKit.due(condition + ": groups", v.skipped(0), groups);
        VaultKit.due(condition + ": stretches", v.skipped(1), stretches);
        VaultKit.due(condition + ": another", v.skipped(2), -1);
        VaultKit.due(condition + ": another", v.skipped(-1), -1);
    }

    /** Rows 0 .. 11, two to a page, six to a group: each page tells two numbers. */
    private static StripedVault twelve() {
        StripedVault v = VaultKit.vault("required int a;");
        for (int k = 0; k < 12; k++) {
            VaultKit.due("record", VaultKit.record(v, "{a:" + k + "}"), -1);
        }
        return VaultKit.opened(v, 2, 6);
    }

    private static void groupsAndStretches() {
        StripedVault v = twelve();
        VaultKit.due("pages", v.opened(4), 6);
        VaultKit.due("no run", v.skipped(0), 0);
        skips(v, "a = 3", 1, 2);
        skips(v, "a = 99", 2, 0);
        skips(v, "a < 6", 1, 0);
        skips(v, "a < 7", 0, 2);
        skips(v, "a >= 0", 0, 0);
        skips(v, "a = 1 or a = 10", 0, 4);
        VaultKit.query(v, "select a");
        v.run();
        VaultKit.due("no where", v.skipped(0), 0);
        VaultKit.due("no where", v.skipped(1), 0);
        VaultKit.query(v, "select count where a = 11");
        VaultKit.due("run", v.run(), 1);
        VaultKit.due("count", v.value(0, 0), 1);
        VaultKit.due("groups", v.skipped(0), 1);
        VaultKit.due("stretches", v.skipped(1), 2);
    }

    /** One page of LEAST 10, GREATEST 20, one of 30 alone: what each comparison says of it. */
    private static void operators() {
        String[] conditions = {"a = 9", "a = 10", "a = 15", "a = 20", "a = 21", "a <> 15", "a < 10", "a < 11", "a <= 9",
            "a <= 10", "a > 20", "a > 19", "a >= 21", "a >= 20", "a in (1, 25)", "a in (1, 12)", "not a < 11",
            "not a in (10, 20)", "a <> 30", "not a = 30", "not a in (30, 31)", "not a <> 30"};
        // Which of both pages can't be: 1 the first one, 2 the second one.
        int[] cant = {3, 2, 2, 2, 3, 0, 3, 2, 3, 2, 1, 0, 1, 0, 3, 2, 0, 0, 2, 2, 2, 1};
        StripedVault v = null;
        for (int k = 0; k < conditions.length; k++) {
            if (k % 5 == 0) {
                v = VaultKit.opened(VaultKit.vault("required int a;required bool z;", "{a:10,z:true}", "{a:20,z:true}",
                        "{a:30,z:true}", "{a:30,z:true}"), 2, 2);
            }
            skips(v, conditions[k], Integer.bitCount(cant[k]), 0);
        }
    }

    private static void nulls() {
        // Pages: both have none; one has none; none has none.
        StripedVault v = VaultKit.opened(VaultKit.vault("optional int a;", "{}", "{}", "{}", "{a:1}", "{a:1}", "{a:1}"), 2, 2);
        skips(v, "a is null", 1, 0);
        skips(v, "a is not null", 1, 0);
        skips(v, "not a is null", 1, 0);
        skips(v, "a = 1", 1, 0);
        skips(v, "a <> 1", 3, 0);
        skips(v, "a = 1 or a is null", 0, 0);
        skips(v, "a = 1 and a is null", 2, 0);
        skips(v, "not (a = 1 and a is not null)", 1, 0);
    }

    private static void truths() {
        StripedVault v = VaultKit.opened(VaultKit.vault("optional int a;optional int b;", "{a:1,b:5}", "{a:1}", "{b:5}", "{}"), 1, 1);
        skips(v, "a = 1 and b = 5", 3, 0);
        skips(v, "a = 1 or b = 5", 1, 0);
        skips(v, "not (a = 1 and b = 5)", 4, 0);
        skips(v, "not (a = 1 or b = 6)", 4, 0);
        skips(v, "not (a = 2 or b = 6)", 3, 0);
        skips(v, "not (a = 2 and b = 5)", 2, 0);
        skips(v, "not not a = 1", 2, 0);
    }

    private static void otherColumns() {
        StripedVault v = VaultKit.opened(VaultKit.vault("required int a;optional int b;",
                "{a:1,b:3}", "{a:2,b:4}", "{a:5,b:5}", "{a:5,b:5}", "{a:9,b:1}", "{a:8,b:8}", "{a:1}", "{a:2}"), 2, 2);
        skips(v, "a = b", 2, 0);
        skips(v, "a <> b", 2, 0);
        skips(v, "a < b", 3, 0);
        skips(v, "a <= b", 1, 0);
        skips(v, "a > b", 3, 0);
        skips(v, "b <= a", 2, 0);
        skips(v, "not a = b", 2, 0);
        skips(v, "a = a", 0, 0);
        v = VaultKit.opened(VaultKit.vault("required int a;", "{a:1}", "{a:2}"), 2, 2);
        skips(v, "a <> a", 0, 0);
        skips(v, "a < a", 0, 0);
    }

    private static void dictionaries() {
        // Far apart, so that a dictionary is shortest: 1000000007 and 2000000011, five times each.
        StripedVault v = VaultKit.vault("required int a;");
        for (int k = 0; k < 10; k++) {
            VaultKit.due("record", VaultKit.record(v, "{a:" + (k % 2 == 0 ? 1000000007 : 2000000011) + "}"), -1);
        }
        VaultKit.opened(v, 10, 10);
        VaultKit.due("dictionary", v.byteOf(6), 2);
        skips(v, "a = 1500000000", 0, 1);
        skips(v, "a = 1000000007", 0, 0);
        skips(v, "a in (1500000000, 5)", 0, 1);
        skips(v, "not a in (1000000007, 2000000011)", 0, 1);
        skips(v, "not a in (1000000007, 5)", 0, 0);
        skips(v, "a <> 1000000007 and a <> 2000000011", 0, 0);
        skips(v, "a < 1000000008", 0, 0);

        // A value that isn't used, 3: the dictionary tells more than LEAST 1 and GREATEST 2 do.
        byte[] page = VaultKit.page(VaultKit.cat(3, 0, 2, 2, 4), 3, VaultKit.low4(1), VaultKit.low4(3), VaultKit.low4(2), 2, 3, 0b101000, 0);
        StripedVault w = VaultKit.taken(VaultKit.frame(page, 1, 3, 0, 1, "a", 3, 1, 3, page.length, 1, 3, 0, 2, 4));
        VaultKit.due("open", w.open(), 0);
        skips(w, "a = 3", 1, 0);
        skips(w, "a = 3 or a = 1", 0, 0);
        skips(w, "a > 2 or a is null", 1, 0);
        skips(w, "a = 2", 0, 0);

        // A dictionary of 101 values isn't told, one of 100 is.
        for (int size = 100; size <= 101; size++) {
            byte[] values = new byte[0];
            for (int k = 0; k < size; k++) {
                values = VaultKit.cat(values, VaultKit.low4(10 * k));
            }
            byte[] numbers = VaultKit.varint(2L * (size - 1));
            byte[] most = VaultKit.varint(2L * 10);
            page = VaultKit.page(VaultKit.cat(VaultKit.varint(size), 0, 2, 0, most),
                    VaultKit.varint(size), values, 7, numbers, 0, 2, 1);
            w = VaultKit.taken(VaultKit.frame(page, 1, 3, 0, 1, "a", VaultKit.varint(size), 1, VaultKit.varint(size),
                    VaultKit.varint(page.length), 1, VaultKit.varint(size), 0, 0, most));
            VaultKit.due("open", w.open(), 0);
            skips(w, "a = 5", 0, size == 100 ? 1 : 0);
        }
    }

    /** Stretches begin where a page of any column of the condition does, but not of another one. */
    private static void pagesOfTwoColumns() {
        byte[] a1 = VaultKit.page(VaultKit.cat(1, 0, 1, 2, 2), 1, 2);
        byte[] a3 = VaultKit.page(VaultKit.cat(3, 0, 1, 4, 4), 3, 4, 0, 0, 0, 0, 0);
        byte[] b2 = VaultKit.page(VaultKit.cat(2, 0, 1, 6, 6), 2, 6, 0, 0, 0, 0, 0);
        byte[] b2b = VaultKit.page(VaultKit.cat(2, 0, 1, 8, 8), 2, 8, 0, 0, 0, 0, 0);
        byte[] file = VaultKit.frame(VaultKit.cat(a1, a3, b2, b2b), 2, 3, 0, 1, "a", 3, 0, 1, "b", 4, 1, 4,
                a1.length + a3.length, 2, 4, 0, 2, 4, b2.length + b2b.length, 2, 4, 0, 6, 8);
        StripedVault v = VaultKit.taken(file);
        VaultKit.due("open", v.open(), 0);
        skips(v, "a = 1", 0, 1);
        skips(v, "b = 3", 0, 1);
        // Stretches: row 0 (1, 3), row 1 (2, 3), rows 2 and 3 (2, 4).
        skips(v, "a = 1 and b = 3", 0, 2);
        skips(v, "a = 1 and b = 4", 0, 3);
        skips(v, "a = 2 and b = 3", 0, 2);
        skips(v, "a = 2 or b = 4", 0, 1);
        skips(v, "a = b", 1, 0);
        skips(v, "a = 1 and b is not null", 0, 2);
    }

    private static void latestRun() {
        StripedVault v = twelve();
        skips(v, "a = 3", 1, 2);
        VaultKit.query(v, "select a where a = 99");
        VaultKit.due("not run yet", v.skipped(0), 1);
        VaultKit.due("open", v.open(), 0);
        VaultKit.due("since it was opened", v.skipped(0), 0);
        VaultKit.due("since it was opened", v.skipped(1), 0);
        v.poke(0, 0);
        v.open();
        VaultKit.due("nothing open", v.skipped(1), 0);
    }
}

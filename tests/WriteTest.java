/** Promise 8: the bytes that are WRITTEN; codings, levels, pages, groups of rows, and what can't be written. */
public final class WriteTest {
    public static void main(String[] args) {
        noRecords();
        codingsOfInts();
        codingsOfLongs();
        codingsOfBools();
        codingsOfTexts();
        levels();
        codeInBlocks();
        sizesInFront();
        pagesAndGroups();
        refused();
        longestFile();
        whatIsOpenStays();
        VaultKit.finish();
    }

    private static String field(int form) {
        return new String(new char[] {1, (char) form, 0, 1, 'a'});
    }

    /** A file of one column a, one group of rows, one page; told is what the footer tells behind the pages. */
    private static byte[] one(int form, int rows, byte[] page, Object... told) {
        return VaultKit.frame(page, field(form), rows, 1, rows, VaultKit.varint(page.length), 1, VaultKit.cat(told));
    }

    private static void bytes(String what, StripedVault v, int page, int group, byte[] want) {
        VaultKit.due(what + ": size", v.write(page, group), want.length);
        VaultKit.due(what + ": size()", v.size(), want.length);
        VaultKit.due(what, VaultKit.hex(VaultKit.file(v)), VaultKit.hex(want));
        VaultKit.due(what + ": opens", v.open(), 0);
    }

    private static StripedVault records(String schema, String... values) {
        StripedVault v = VaultKit.vault(schema);
        for (String value : values) {
            VaultKit.due("record", VaultKit.record(v, value.isEmpty() ? "{}" : "{a:" + value + "}"), -1);
        }
        return v;
    }

    private static void noRecords() {
        bytes("no records", VaultKit.vault("required int a;"), 1, 1,
                VaultKit.frame(new byte[0], field(3), 0, 0));
        StripedVault v = VaultKit.vault("optional group g{repeated text t;required bool b;}repeated long l;");
        bytes("fields", v, 1000, 2000, VaultKit.frame(new byte[0],
                4, 13, 0, 1, "g", 11, 1, 1, "t", 0, 1, 1, "b", 8, 0, 1, "l", 0, 0));
    }

    private static void codingsOfInts() {
        // One number: a CODE of two bytes is shortest.
        bytes("one int", records("required int a;", "7"), 1, 1,
                one(3, 1, VaultKit.page(VaultKit.cat(1, 0, 1, 14, 14), 1, 14), 1, 0, 14, 14));
        // CODE and DICTIONARY have seven bytes both: the first one.
        bytes("two ints", records("required int a;", "7", "7"), 9, 9,
                one(3, 2, VaultKit.page(VaultKit.cat(2, 0, 1, 14, 14), 2, 14, 0, 0, 0, 0, 0), 2, 0, 14, 14));
        // PLAIN: eight bytes, where a CODE would take twelve.
        bytes("plain ints", records("required int a;", "1000000", "-1000000"), 9, 9,
                one(3, 2, VaultKit.page(VaultKit.cat(2, 0, 0, 255, 136, 122, 128, 137, 122),
                        64, 66, 15, 0, 192, 189, 240, 255), 2, 0, 255, 136, 122, 128, 137, 122));
        // A DICTIONARY of two far values, nine numbers of it: a run of GROUPS of two.
        String far = "2000000000";
        String[] values = {far, "-7", far, "-7", "-7", far, far, "-7", "-7"};
        bytes("dictionary", records("required int a;", values), 9, 9,
                one(3, 9, VaultKit.page(VaultKit.cat(9, 0, 2, 13, VaultKit.varint(4000000000L)),
                        2, VaultKit.low4(2000000000L), VaultKit.low4(-7), 1, 5, 0b10011010, 1),
                        9, 0, 13, VaultKit.varint(4000000000L)));
    }

    private static void codingsOfLongs() {
        // The difference wraps around: 1 from the greatest to the least.
        bytes("wrapping", records("required long a;", "9223372036854775807", "-9223372036854775808"), 9, 9,
                one(6, 2, VaultKit.page(VaultKit.cat(2, 0, 0, VaultKit.varint(-1), VaultKit.varint(-2)),
                        255, 255, 255, 255, 255, 255, 255, 127, 0, 0, 0, 0, 0, 0, 0, 128),
                        2, 0, VaultKit.varint(-1), VaultKit.varint(-2)));
        bytes("one long", records("required long a;", "-1"), 9, 9,
                one(6, 1, VaultKit.page(VaultKit.cat(1, 0, 1, 1, 1), 1, 1), 1, 0, 1, 1));
    }

    private static void codingsOfBools() {
        String[] nine = {"true", "true", "true", "true", "true", "true", "true", "true", "true"};
        bytes("nine bools, both have two bytes", records("required bool a;", nine), 9, 9,
                one(0, 9, VaultKit.page(VaultKit.cat(9, 0, 0, 1, 1), 255, 1), 9, 0, 1, 1));
        String[] many = new String[17];
        java.util.Arrays.fill(many, "false");
        bytes("17 bools, a run of ONE", records("required bool a;", many), 20, 20,
                one(0, 17, VaultKit.page(VaultKit.cat(17, 0, 1, 0, 0), 34, 0), 17, 0, 0, 0));
        bytes("few bools", records("required bool a;", "true", "false", "true"), 9, 9,
                one(0, 3, VaultKit.page(VaultKit.cat(3, 0, 0, 0, 1), 5), 3, 0, 0, 1));
    }

    private static void codingsOfTexts() {
        bytes("plain texts", records("required text a;", "'b'", "''"), 9, 9,
                one(9, 2, VaultKit.page(VaultKit.cat(2, 0, 0, 0, 1, "b"), 1, "b", 0), 2, 0, 0, 1, "b"));
        String[] same = new String[10];
        java.util.Arrays.fill(same, "'oslo'");
        bytes("dictionary of one, in no bits", records("required text a;", same), 20, 20,
                one(9, 10, VaultKit.page(VaultKit.cat(10, 0, 3, 4, "oslo", 4, "oslo"), 1, 4, "oslo", 0, 20),
                        10, 0, 4, "oslo", 4, "oslo"));
        // Ten texts of one length without anything in common: lengths by a CODE.
        String[] apart = new String[10];
        StringBuilder all = new StringBuilder();
        for (int k = 0; k < 10; k++) {
            apart[k] = "'" + (char) ('j' - k) + "z'";
            all.append((char) ('j' - k)).append("z");
        }
        bytes("lengths by a CODE", records("required text a;", apart), 20, 20,
                one(9, 10, VaultKit.page(VaultKit.cat(10, 0, 1, 2, "az", 2, "jz"), 7, 10, 4, 0, 0, 0, 0, 0, all.toString()),
                        10, 0, 2, "az", 2, "jz"));
        // 12 texts with seven bytes in common.
        String[] alike = new String[12];
        StringBuilder rest = new StringBuilder("commonsa");
        for (int k = 0; k < 12; k++) {
            alike[k] = "'commons" + (char) ('a' + k) + "'";
            rest.append(k == 0 ? "" : (char) ('a' + k));
        }
        // In common 0, 7, 7 ..: differences 7, 0, 0 ..; more 8, 1, 1 ..: differences -7, 0, 0 ..
        bytes("in common", records("required text a;", alike), 20, 20,
                one(9, 12, VaultKit.page(VaultKit.cat(12, 0, 2, 8, "commonsa", 8, "commonsl"),
                        13, 12, 0, 0, 3, 0, 0, 0, 7, 0, 0, 0, 0, 0,
                        13, 12, 16, 13, 3, 0, 0, 0, 0b11111000, 255, 255, 255, 1, 0,
                        rest.toString()), 12, 0, 8, "commonsa", 8, "commonsl"));
    }

    private static void levels() {
        // R of a is 1, D 2; repetition levels 0 1 0, definition levels 2 1 0.
        StripedVault v = VaultKit.vault("repeated group g{optional int a;}", "{g:[{a:1},{}]}", "{}");
        byte[] page = VaultKit.page(VaultKit.cat(3, 2, 1, 2, 2), 2, 3, 0b010, 3, 3, 0b000110, 0, 1, 2);
        bytes("levels", v, 9, 9, VaultKit.frame(page, 2, 14, 0, 1, "g", 4, 1, 1, "a", 2, 1, 2, page.length, 1, 3, 2, 2, 2));
        // No values: no LEAST, no GREATEST; eight levels that are the same are a run of ONE.
        String[] none = {"", "", "", "", "", "", "", ""};
        byte[] empty = VaultKit.page(VaultKit.cat(8, 8, 0), 2, 16, 0);
        bytes("no values", records("optional int a;", none), 9, 9, one(4, 8, empty, 8, 8));
        bytes("no bools", records("optional bool a;", none), 9, 9, one(1, 8, empty, 8, 8));
        bytes("no texts", records("optional text a;", none), 9, 9, one(10, 8, empty, 8, 8));
        // 8 levels that differ, then 9 the same: GROUPS until one begins with eight that are the same.
        String[] levels = new String[17];
        java.util.Arrays.fill(levels, "true");
        levels[1] = "";
        bytes("groups, then one", records("optional bool a;", levels), 20, 20,
                one(1, 17, VaultKit.page(VaultKit.cat(17, 1, 0, 1, 1), 4, 3, 253, 18, 1, 255, 255), 17, 1, 1, 1));
    }

    private static void codeInBlocks() {
        // 66 numbers: 65 differences, a block of 64 and one of one; all are 1 but the last one.
        StripedVault v = VaultKit.vault("repeated int a;");
        StringBuilder text = new StringBuilder("{a:[0");
        for (int k = 1; k < 65; k++) {
            text.append(",").append(k);
        }
        VaultKit.due("record", VaultKit.record(v, text + ",100]}"), -1);
        byte[] levels = VaultKit.cat(4, 3, 254, 116, 1);
        byte[] defs = VaultKit.cat(3, VaultKit.varint(132), 1);
        byte[] code = VaultKit.cat(66, 0, 2, 0, 0, 0, 0, 72, 0, 0, 0, 0);
        byte[] page = VaultKit.page(VaultKit.cat(66, 0, 1, 0, 200, 1), levels, defs, code);
        bytes("blocks", v, 100, 1, one(5, 1, page, 66, 0, 0, 200, 1));
    }

    /** Levels of 127, 128 and 129 bytes: their size has one byte in front of them, or two. */
    private static void sizesInFront() {
        for (int groups = 61; groups <= 63; groups++) {
            // GROUPS of levels that change, then eight that are the same, then GROUPS again.
            StringBuilder text = new StringBuilder("{g:[");
            for (int k = 0; k < groups * 8 + 8; k++) {
                boolean value = k >= 240 && k < 248 || k % 2 == 0;
                text.append(k == 0 ? "" : ",").append(value ? "{a:1}" : "{}");
            }
            String record = text + "]}";
            StripedVault v = VaultKit.opened(VaultKit.vault("repeated group g{optional int a;}", record), 1000, 1);
            VaultKit.due("levels that change, " + groups, VaultKit.show(v, 0), record);
        }
        for (int texts = 100; texts < 140; texts++) {
            StripedVault v = VaultKit.vault("repeated text t;");
            StringBuilder text = new StringBuilder("{t:[");
            for (int k = 0; k < texts; k++) {
                text.append(k == 0 ? "'" : ",'").append((char) ('a' + k * 7 % 26)).append("z".repeat(k * k % 37)).append("'");
            }
            String record = text + "]}";
            VaultKit.due("record", VaultKit.record(v, record), -1);
            VaultKit.opened(v, 1000, 1);
            VaultKit.due("lengths that change, " + texts, VaultKit.show(v, 0), record);
        }
    }

    private static void pagesAndGroups() {
        String[] records = {"[1]", "[1,2,3]", "[1]", "[1]", "", "[1,2]"};
        int[][] want = {{1, 6, 1, 6}, {2, 6, 1, 5}, {3, 6, 1, 4}, {4, 6, 1, 3}, {9, 6, 1, 1},
            {2, 3, 2, 5}, {2, 1, 6, 6}, {1000, 2000, 1, 1}, {3, 4, 2, 4}};
        for (int[] w : want) {
            StripedVault v = VaultKit.opened(records("repeated int a;", records), w[0], w[1]);
            String how = "pages of " + w[0] + ", groups of " + w[1];
            VaultKit.due(how + ": groups", v.opened(1), w[2]);
            VaultKit.due(how + ": pages", v.opened(4), w[3]);
        }
        // 255 bytes a text: 78 are 19890, 79 would be 20145.
        StripedVault v = VaultKit.vault("required text a;");
        for (int k = 0; k < 16; k++) {
            VaultKit.due("record", VaultKit.record(v, "{a:'" + "x".repeat(255) + "'}"), -1);
        }
        VaultKit.opened(v, 1000, 2000);
        VaultKit.due("one page", v.opened(4), 1);
        StripedVault w = VaultKit.vault("repeated text a;");
        String five = "{a:[" + ("'" + "x".repeat(250) + "',").repeat(9) + "'" + "x".repeat(250) + "']}";
        for (int k = 0; k < 9; k++) {
            VaultKit.due("record", VaultKit.record(w, five), -1);
        }
        VaultKit.opened(w, 1000, 2000);
        VaultKit.due("20000 bytes come into a page, no more", w.opened(4), 2);
        VaultKit.due("write", w.write(1000, 8) > 0, true);
        VaultKit.due("open", w.open(), 0);
        VaultKit.due("exactly 20000", w.opened(4), 2);
    }

    private static void refused() {
        StripedVault v = VaultKit.vault("required int a;", "{a:1}");
        int size = v.write(1, 1);
        int[][] wrong = {{0, 1}, {1001, 1}, {1, 0}, {1, 2001}, {-1, -1}, {Integer.MIN_VALUE, 1}, {1, Integer.MAX_VALUE}};
        for (int[] w : wrong) {
            VaultKit.due("write(" + w[0] + ", " + w[1] + ")", v.write(w[0], w[1]), -1);
            VaultKit.due("the file stays", v.size(), size);
        }
        VaultKit.due("edges", v.write(1000, 2000), size);
        VaultKit.due("no schema", new StripedVault().write(1, 1), -1);

        StripedVault w = VaultKit.vault("repeated group g{optional int a;}", "{g:[" + "{},".repeat(999) + "{}]}");
        VaultKit.due("1000 entries", w.write(1, 1) > 0, true);
        int before = w.size();
        VaultKit.due("record", VaultKit.record(w, "{g:[" + "{},".repeat(1000) + "{}]}"), -1);
        VaultKit.due("1001 entries", w.write(1000, 1), -1);
        VaultKit.due("the file stays", w.size(), before);

        StripedVault big = VaultKit.vault("repeated text t;");
        for (int k = 0; k < 11; k++) {
            StringBuilder text = new StringBuilder("{t:[");
            for (int n = 0; n < 15; n++) {
                text.append(n == 0 ? "'" : ",'").append((char) ('a' + n)).append((char) ('a' + k));
                text.append(("" + (char) ('A' + (n * 7 + k) % 26)).repeat(253)).append("'");
            }
            VaultKit.due("record", VaultKit.record(big, text + "]}"), -1);
        }
        VaultKit.due("more than 40000 bytes", big.write(1, 1), -1);
        VaultKit.due("no file yet", big.size(), 0);

        StripedVault many = VaultKit.vault("optional bool b;");
        for (int k = 0; k < 500; k++) {
            VaultKit.record(many, "{}");
        }
        VaultKit.due("500 groups", many.write(1, 1) > 0, true);
        VaultKit.due("open", many.open(), 0);
        VaultKit.due("500 groups", many.opened(1), 500);
        VaultKit.record(many, "{}");
        VaultKit.due("501 groups", many.write(1, 1), -1);
        VaultKit.due("251 groups", many.write(1, 2) > 0, true);
    }

    private static String noise(java.util.Random random, int size) {
        StringBuilder text = new StringBuilder();
        for (int k = 0; k < size; k++) {
            text.append((char) ('a' + random.nextInt(26)));
        }
        return text.toString();
    }

    /** Texts that no coding makes shorter, and one more of so many bytes. */
    private static StripedVault noisy(int last) {
        StripedVault v = VaultKit.vault("repeated text t;");
        java.util.Random random = new java.util.Random(1);
        for (int k = 0; k < 10; k++) {
            StringBuilder text = new StringBuilder("{t:['").append(noise(random, 255)).append("'");
            for (int n = 1; n < 15; n++) {
                text.append(",'").append(noise(random, 255)).append("'");
            }
            VaultKit.due("record", VaultKit.record(v, text + "]}"), -1);
        }
        VaultKit.due("record", VaultKit.record(v, "{t:['" + "m".repeat(last) + "']}"), -1);
        return v;
    }

    /** A file may have 40000 bytes, not one more; those of the footer and the frame count. */
    private static void longestFile() {
        int size = noisy(1).write(1000, 2000);
        int longest = 40000 - size + 1;
        VaultKit.due("a text of less than 128 bytes is left", longest > 1 && longest < 128, true);
        StripedVault v = noisy(longest);
        VaultKit.due("40000 bytes", v.write(1000, 2000), 40000);
        VaultKit.due("size", v.size(), 40000);
        VaultKit.due("open", v.open(), 0);
        VaultKit.due("last byte", v.byteOf(39999), 66);
        v = noisy(longest + 1);
        VaultKit.due("40001 bytes", v.write(1000, 2000), -1);
        VaultKit.due("no file", v.size(), 0);
    }

    private static void whatIsOpenStays() {
        StripedVault v = VaultKit.opened(VaultKit.vault("required int a;", "{a:1}"), 1, 1);
        VaultKit.due("record", VaultKit.record(v, "{a:2}"), -1);
        VaultKit.due("write", v.write(1, 1) > 0, true);
        VaultKit.due("rows", v.opened(0), 1);
        for (int k = 0; k < v.size(); k++) {
            v.poke(k, 0);
        }
        v.take();
        VaultKit.due("the file is empty", v.size(), 0);
        VaultKit.due("row", VaultKit.show(v, 0), "{a:1}");
    }
}

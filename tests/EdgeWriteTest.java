import java.util.Arrays;

/** Promise 8: what is WRITTEN, at the last case that still can be and at the first one that can't. */
public final class EdgeWriteTest {
    private static final long LOWEST = Long.MIN_VALUE;
    private static final long HIGHEST = Long.MAX_VALUE;

    public static void main(String[] args) {
        suchNumbers();
        noSchema();
        noRecords();
        entriesOfAPage();
        rowsOfAGroup();
        aRecordAlone();
        bytesOfTextsInAPage();
        entriesOfARecord();
        howManyGroups();
        bytesOfTheFile();
        differencesWrapAround();
        differencesOfAllBits();
        leastOfAnotherBlock();
        sizesInFront();
        boolsByRuns();
        allInCommon();
        blocksAndParts();
        runsOfOne();
        runsOfNone();
        runsWithoutBits();
        widthOfADictionary();
        firstOfSeveralCodings();
        whatIsOpenStays();
        VaultKit.finish();
    }

    private static String field(int form) {
        return new String(new char[] {1, (char) form, 0, 1, 'a'});
    }

    /** A file of one column a, one group of rows, one page; told is what the footer tells behind the pages. */
    private static byte[] one(int form, int rows, byte[] page, Object... told) {
        return VaultKit.frame(page, field(form), VaultKit.varint(rows), 1, VaultKit.varint(rows),
                VaultKit.varint(page.length), 1, VaultKit.cat(told));
    }

    private static void bytes(String what, StripedVault v, byte[] want) {
        VaultKit.due(what + ": size", v.write(1000, 2000), want.length);
        VaultKit.due(what, VaultKit.hex(VaultKit.file(v)), VaultKit.hex(want));
        VaultKit.due(what + ": opens", v.open(), 0);
    }

    /** "pages of so many entries (1 .. 1000), groups of so many rows (1 .. 2000)", "NONE (and the FILE stays)". */
    private static void suchNumbers() {
        StripedVault v = VaultKit.vault("required int a;", "{a:1}", "{a:2}");
        VaultKit.due("write", v.write(1, 1) > 0, true);
        String before = VaultKit.hex(VaultKit.file(v));
        int[][] wrong = {{0, 1}, {1, 0}, {0, 0}, {1001, 1}, {1000, 2001}, {1001, 2000}, {-1, 1}, {1, -1},
            {Integer.MIN_VALUE, 1}, {1, Integer.MIN_VALUE}, {Integer.MAX_VALUE, 1}, {1, Integer.MAX_VALUE}};
        for (int[] w : wrong) {
            VaultKit.due("write(" + w[0] + ", " + w[1] + ")", v.write(w[0], w[1]), -1);
            VaultKit.due("the file stays", v.size(), before.length() / 2);
        }
        VaultKit.due("the file stays", VaultKit.hex(VaultKit.file(v)), before);
        int[][] good = {{1, 1}, {1000, 1}, {1, 2000}, {1000, 2000}};
        for (int[] g : good) {
            VaultKit.due("write(" + g[0] + ", " + g[1] + ")", v.write(g[0], g[1]), v.size());
            VaultKit.due("size", v.size() > 16, true);
        }
    }

    private static void noSchema() {
        StripedVault v = VaultKit.taken(VaultKit.bytes("abc"));
        VaultKit.due("no schema", v.write(1, 1), -1);
        VaultKit.due("the file stays", v.size(), 3);
        VaultKit.due("no schema by one with a fault", VaultKit.schema(v, "required int a"), 14);
        VaultKit.due("no schema", v.write(1000, 2000), -1);
        VaultKit.due("the file stays", v.byteOf(2), 'c');
    }

    /** "none: a FILE without groups". */
    private static void noRecords() {
        StripedVault v = VaultKit.vault("required int a;");
        bytes("no records", v, VaultKit.frame(new byte[0], field(3), 0, 0));
        VaultKit.due("rows", v.opened(0), 0);
        VaultKit.due("groups", v.opened(1), 0);
        VaultKit.due("fields", v.opened(2), 1);
        VaultKit.due("columns", v.opened(3), 1);
        VaultKit.due("pages", v.opened(4), 0);
        VaultKit.due("no row", v.show(0), -1);
        VaultKit.due("query", VaultKit.query(v, "select a where a = 1"), -1);
        VaultKit.due("an answer of none", v.run(), 0);
        VaultKit.due("groups that were skipped", v.skipped(0), 0);
    }

    private static void pages(StripedVault v, int page, int group, int groups, int pages) {
        String how = "pages of " + page + ", groups of " + group;
        VaultKit.opened(v, page, group);
        VaultKit.due(how + ": groups", v.opened(1), groups);
        VaultKit.due(how + ": pages", v.opened(4), pages);
    }

    /** "one more record comes into a page as long as it then has not more entries than is said". */
    private static void entriesOfAPage() {
        String[] sizes = {"[1]", "[1,2]", "[]", "[1,2,3]", "[1]"};
        StripedVault v = VaultKit.vault("repeated int a;");
        for (String size : sizes) {
            VaultKit.due("record", VaultKit.record(v, "{a:" + size + "}"), -1);
        }
        // Entries: 1 2 1 3 1.
        int[] want = {5, 5, 4, 2, 2, 2, 2, 1, 1};
        for (int page = 1; page <= want.length; page++) {
            pages(v, page, 5, 1, want[page - 1]);
        }
    }

    /** "groups of as many rows as is said, the last one of those that are left". */
    private static void rowsOfAGroup() {
        StripedVault v = VaultKit.vault("required int a;", "{a:1}", "{a:2}", "{a:3}", "{a:4}", "{a:5}", "{a:6}");
        int[] want = {6, 3, 2, 2, 2, 1, 1};
        for (int group = 1; group <= want.length; group++) {
            pages(v, 1000, group, want[group - 1], want[group - 1]);
        }
        pages(v, 2, 4, 2, 3);
        pages(v, 1, 4, 2, 6);
    }

    /** "a record alone has a page in any case (of at most 1000 entries)". */
    private static void aRecordAlone() {
        StripedVault v = VaultKit.vault("repeated int a;required int b;", "{a:[1,2,3,4],b:1}", "{b:2}", "{a:[1,2],b:3}");
        pages(v, 1, 9, 1, 6);
        pages(v, 2, 9, 1, 5);
        pages(v, 3, 9, 1, 3);
        VaultKit.due("row", VaultKit.show(v, 0), "{a:[1,2,3,4],b:1}");
    }

    private static String list(int count, int size, int last) {
        String one = "'" + "q".repeat(size) + "',";
        return "{a:[" + one.repeat(count) + "'" + "q".repeat(last) + "']}";
    }

    /** "and not more than 20000 bytes of texts": 20000 come into a page, 20001 into two; more calls than 512. */
    private static void bytesOfTextsInAPage() {
        for (int more = 0; more <= 1; more++) {
            StripedVault v = VaultKit.vault("repeated text a;");
            for (int k = 0; k < 7; k++) {
                VaultKit.due("2500 bytes", VaultKit.record(v, list(9, 250, 250)), -1);
            }
            VaultKit.due("2500 bytes", VaultKit.record(v, list(9, 250, 250 + more)), -1);
            pages(v, 1000, 2000, 1, 1 + more);
            VaultKit.due("none", VaultKit.record(v, "{a:['']}"), -1);
            VaultKit.due("none", VaultKit.record(v, "{}"), -1);
            pages(v, 1000, 2000, 1, 1 + more);
            VaultKit.due("one byte", VaultKit.record(v, "{a:['q']}"), -1);
            pages(v, 1000, 2000, 1, 2);
            pages(v, 84, 2000, 1, 2);
        }
    }

    private static String groups(int count) {
        return "{g:[{}" + ",{}".repeat(count - 1) + "]}";
    }

    /** "a record has more than 1000 entries of a column". */
    private static void entriesOfARecord() {
        String schema = "optional int z;repeated group g{optional int a;}optional int y;";
        StripedVault v = VaultKit.vault(schema, groups(1000));
        int size = v.write(1, 1);
        VaultKit.due("1000 entries", size > 0, true);
        VaultKit.due("open", v.open(), 0);
        VaultKit.due("pages", v.opened(4), 3);
        VaultKit.due("record", VaultKit.record(v, "{}"), -1);
        VaultKit.due("record", VaultKit.record(v, groups(1001)), -1);
        VaultKit.due("1001 entries", v.write(1, 1), -1);
        VaultKit.due("1001 entries", v.write(1000, 2000), -1);
        VaultKit.due("the file stays", v.size(), size);
        v.clear();
        VaultKit.due("record", VaultKit.record(v, groups(1001)), -1);
        VaultKit.due("1001 entries, at first", v.write(1000, 1), -1);
        v.clear();
        VaultKit.due("record", VaultKit.record(v, groups(999)), -1);
        VaultKit.due("write", v.write(1000, 1) > 0, true);
    }

    /** "there are more than 500 groups": more calls than 512, but the bound is the same. */
    private static void howManyGroups() {
        StripedVault v = VaultKit.vault("optional bool a;");
        for (int k = 0; k < 1000; k++) {
            VaultKit.due("record", VaultKit.record(v, "{}"), -1);
        }
        int size = v.write(1, 2);
        VaultKit.due("500 groups of two", size > 0, true);
        VaultKit.due("1000 groups", v.write(1, 1), -1);
        VaultKit.due("the file stays", v.size(), size);
        VaultKit.due("open", v.open(), 0);
        VaultKit.due("groups", v.opened(1), 500);
        VaultKit.due("record", VaultKit.record(v, "{}"), -1);
        VaultKit.due("501 groups", v.write(1, 2), -1);
        VaultKit.due("334 groups", v.write(1, 3) > 0, true);
    }

    private static StripedVault noisy(int last) {
        java.util.Random random = new java.util.Random(7);
        StripedVault v = VaultKit.vault("repeated text a;");
        for (int k = 0; k < 10; k++) {
            StringBuilder text = new StringBuilder("{a:[");
            for (int n = 0; n < 15; n++) {
                text.append(n == 0 ? "'" : ",'");
                for (int i = 0; i < 255; i++) {
                    text.append((char) ('a' + random.nextInt(26)));
                }
                text.append("'");
            }
            VaultKit.due("record", VaultKit.record(v, text + "]}"), -1);
        }
        VaultKit.due("record", VaultKit.record(v, "{a:['" + "m".repeat(last) + "']}"), -1);
        return v;
    }

    /** "the FILE would have more than 40000 bytes": more calls than 512, but the bound is the same. */
    private static void bytesOfTheFile() {
        int longest = 40000 - noisy(1).write(1000, 2000) + 1;
        VaultKit.due("40000 bytes", noisy(longest).write(1000, 2000), 40000);
        StripedVault v = noisy(longest + 1);
        VaultKit.input(v, "abc");
        v.take();
        VaultKit.due("40001 bytes", v.write(1000, 2000), -1);
        VaultKit.due("the file stays", v.size(), 3);
    }

    private static StripedVault numbers(String type, long... values) {
        StripedVault v = VaultKit.vault("required " + type + " a;");
        for (long value : values) {
            VaultKit.due("record", VaultKit.record(v, "{a:" + value + "}"), -1);
        }
        return v;
    }

    private static byte[] told(long value) {
        return VaultKit.varint(VaultKit.zigzag(value));
    }

    /** A page of numbers, by the CODE. */
    private static byte[] coded(int form, long least, long greatest, long... values) {
        byte[] bounds = VaultKit.cat(told(least), told(greatest));
        byte[] page = VaultKit.page(VaultKit.cat(VaultKit.varint(values.length), 0, 1, bounds), VaultKit.code(values));
        return one(form, values.length, page, VaultKit.varint(values.length), 0, bounds);
    }

    /** "DIFFERENCES (each of the others less the one before it, modulo 2 to the 64)". */
    private static void differencesWrapAround() {
        long[] swings = new long[17];
        for (int k = 0; k < 17; k++) {
            swings[k] = k % 2 == 0 ? HIGHEST : LOWEST;
        }
        // The differences are 1 and - 1, in two bits each.
        bytes("from the highest to the lowest", numbers("long", swings), coded(6, LOWEST, HIGHEST, swings));
        long[] steps = new long[20];
        for (int k = 0; k < 20; k++) {
            steps[k] = HIGHEST - 9 + k;
        }
        bytes("on beyond the highest", numbers("long", steps), coded(6, LOWEST, HIGHEST, steps));
        long[] down = new long[20];
        for (int k = 0; k < 20; k++) {
            down[k] = LOWEST + 9 - k;
        }
        bytes("down below the lowest", numbers("long", down), coded(6, LOWEST, HIGHEST, down));
        // Of ints nothing wraps around: differences of up to 33 bits.
        bytes("ints", numbers("int", -2147483648, 2147483647), one(3, 2, VaultKit.page(
                VaultKit.cat(2, 0, 0, told(-2147483648), told(2147483647)), VaultKit.low4(-2147483648), VaultKit.low4(2147483647)),
                2, 0, told(-2147483648), told(2147483647)));
    }

    /** "in BLOCKS of 64, the last block of those that are left", "sixteen differences each, as far as there are". */
    private static void blocksAndParts() {
        int[] counts = {2, 16, 17, 18, 33, 34, 49, 50, 64, 65};
        for (int count : counts) {
            StringBuilder text = new StringBuilder("{a:[");
            long[] values = new long[count];
            for (int k = 0; k < count; k++) {
                values[k] = 1000 + 3 * k + (k == count - 1 ? 40 : 0);
                text.append(k == 0 ? "" : ",").append(values[k]);
            }
            StripedVault v = VaultKit.vault("repeated long a;", text + "]}");
            VaultKit.due("write", v.write(1000, 1) > 0, true);
            byte[] bounds = VaultKit.cat(told(values[0]), told(values[count - 1]));
            byte[] reps = count < 9 ? VaultKit.sized(VaultKit.groups(1, ones(count))) : VaultKit.sized(VaultKit.groups(1, ones(8)),
                    count < 16 ? new byte[0] : VaultKit.same(1, 1, count - 8));
            byte[] defs = VaultKit.sized(count < 8 ? VaultKit.groups(1, all(count)) : VaultKit.same(1, 1, count));
            byte[] page = VaultKit.page(VaultKit.cat(count, 0, 1, bounds), reps, defs, VaultKit.code(values));
            VaultKit.due(count + " numbers", VaultKit.hex(VaultKit.file(v)), VaultKit.hex(one(8, 1, page, count, 0, bounds)));
        }
    }

    /** A row of longs in one record, by the CODE. */
    private static void coded(String what, long... values) {
        int count = values.length;
        StringBuilder text = new StringBuilder();
        for (long value : values) {
            text.append(text.length() == 0 ? "{a:[" : ",").append(value);
        }
        long least = Arrays.stream(values).min().getAsLong();
        long greatest = Arrays.stream(values).max().getAsLong();
        byte[] bounds = VaultKit.cat(told(least), told(greatest));
        byte[] page = VaultKit.page(VaultKit.cat(VaultKit.varint(count), 0, 1, bounds), VaultKit.sized(VaultKit.groups(1, ones(8)), VaultKit.same(1, 1, count - 8)),
                VaultKit.sized(VaultKit.same(1, 1, count)), VaultKit.code(values));
        bytes(what, VaultKit.vault("repeated long a;", text + "]}"), one(8, 1, page, VaultKit.varint(count), 0, bounds));
    }

    /** WIDTHS of 63 and of 64, "as little as can be". */
    private static void differencesOfAllBits() {
        for (int more = 0; more <= 1; more++) {
            long[] values = new long[60];
            for (int k = 1; k < 60; k++) {
                values[k] = HIGHEST + more - k;
            }
            // The others less the one before them are - 1: the first difference, less that, is 2 to the 63, or one less.
            coded("a WIDTH of " + (63 + more), values);
        }
    }

    private static void leastOfAnotherBlock() {
        for (int count = 65; count <= 67; count++) {
            long[] values = new long[count];
            for (int k = 0; k < count; k++) {
                values[k] = k < 65 ? 7 * k : 7 * k - 100;
            }
            coded(count + " numbers, the least difference in the second block", values);
        }
    }

    /** Levels of 125, 127 and 130 bytes: their size has one byte, or two. */
    private static void sizesInFront() {
        for (int groups = 62; groups <= 64; groups++) {
            StringBuilder text = new StringBuilder();
            long[] defs = new long[8 * groups];
            int values = 4 * groups;
            for (int k = 0; k < defs.length; k++) {
                text.append(k == 0 ? "{g:[" : ",").append(k % 2 == 0 ? "{a:1}" : "{}");
                defs[k] = k % 2 == 0 ? 2 : 1;
            }
            byte[] count = VaultKit.varint(defs.length);
            byte[] code = VaultKit.cat(1, VaultKit.low4(1), 0, VaultKit.varint(2L * values));
            byte[] page = VaultKit.page(VaultKit.cat(count, VaultKit.varint(defs.length - values), 2, 2, 2),
                    VaultKit.sized(VaultKit.groups(1, ones(8)), VaultKit.same(1, 1, defs.length - 8)), VaultKit.sized(VaultKit.groups(2, defs)), code);
            bytes(groups + " groups of levels", VaultKit.vault("repeated group g{optional int a;}", text + "]}"),
                    VaultKit.frame(page, 2, 14, 0, 1, "g", 4, 1, 1, "a", 1, 1, 1, VaultKit.varint(page.length), 1, count,
                            VaultKit.varint(defs.length - values), 2, 2));
        }
    }

    /** Runs of ONE and GROUPS, of bools themselves. */
    private static void boolsByRuns() {
        StripedVault v = VaultKit.vault("required bool a;");
        for (int k = 0; k < 48; k++) {
            VaultKit.due("record", VaultKit.record(v, "{a:" + (k < 40 || k % 2 == 0) + "}"), -1);
        }
        // 41 times true, then seven more.
        byte[] page = VaultKit.page(VaultKit.cat(48, 0, 1, 0, 1), 82, 1, 3, 0b00101010);
        bytes("runs of bools", v, one(0, 48, page, 48, 0, 0, 1));
    }

    /** "in common is as much as can be": all of the one before it, or all of the text itself. */
    private static void allInCommon() {
        String stem = "a stem that is long enough for all";
        for (int size = stem.length() - 1; size <= stem.length(); size++) {
            int count = 16;
            long[] common = new long[count];
            long[] more = new long[count];
            StringBuilder rest = new StringBuilder();
            StripedVault v = VaultKit.vault("required text a;");
            String before = "";
            for (int k = 0; k < count; k++) {
                String text = stem.substring(0, size) + "bcdefghi".substring(0, k < 8 ? k : 15 - k);
                VaultKit.due("record", VaultKit.record(v, "{a:'" + text + "'}"), -1);
                common[k] = k == 0 ? 0 : Math.min(before.length(), text.length());
                more[k] = text.length() - common[k];
                rest.append(text.substring((int) common[k]));
                before = text;
            }
            byte[] bounds = VaultKit.cat(VaultKit.sized(stem.substring(0, size)), VaultKit.sized(stem.substring(0, size) + "bcdefgh"));
            byte[] page = VaultKit.page(VaultKit.cat(count, 0, 2, bounds), VaultKit.sized(VaultKit.code(common)), VaultKit.sized(VaultKit.code(more)), rest.toString());
            bytes("texts that another begins with", v, one(9, count, page, count, 0, bounds));
        }
    }

    /** 0, 1, 1, 1 .. */
    private static long[] ones(int count) {
        long[] numbers = all(count);
        numbers[0] = 0;
        return numbers;
    }

    private static long[] all(int count) {
        long[] numbers = new long[count];
        Arrays.fill(numbers, 1);
        return numbers;
    }

    /** Records that have a value (1) or none, and the RUNS of their levels. */
    private static void levels(String what, String has, byte[] runs) {
        StripedVault v = VaultKit.vault("optional bool a;");
        int values = 0;
        for (int k = 0; k < has.length(); k++) {
            boolean value = has.charAt(k) == '1';
            VaultKit.due("record", VaultKit.record(v, value ? "{a:true}" : "{}"), -1);
            values += value ? 1 : 0;
        }
        byte[] bounds = values == 0 ? new byte[0] : VaultKit.cat(1, 1);
        byte[] bools = VaultKit.bits(1, all(values));
        byte[] runsOfBools = VaultKit.same(1, 1, values);
        boolean shorter = values >= 8 && runsOfBools.length < bools.length;
        byte[] page = VaultKit.page(VaultKit.cat(has.length(), has.length() - values, shorter ? 1 : 0, bounds),
                VaultKit.sized(runs), values == 0 ? new byte[0] : shorter ? runsOfBools : bools);
        VaultKit.due("write", v.write(1000, 2000) > 0, true);
        VaultKit.due(what + " " + has, VaultKit.hex(VaultKit.file(v)),
                VaultKit.hex(one(1, has.length(), page, has.length(), has.length() - values, bounds)));
        VaultKit.due("open", v.open(), 0);
    }

    /** "if it and at least seven behind it are the same, a run of ONE .. otherwise GROUPS, as many until ..". */
    private static void runsOfOne() {
        levels("one number", "0", VaultKit.cat(3, 0));
        levels("seven that are the same", "0000000", VaultKit.cat(3, 0));
        levels("eight that are the same", "00000000", VaultKit.cat(16, 0));
        levels("nine", "000000000", VaultKit.cat(18, 0));
        levels("eight, and one more", "000000001", VaultKit.cat(16, 0, 3, 1));
        levels("eight, and eight", "0000000011111111", VaultKit.cat(16, 0, 16, 1));
        levels("seven, and one", "00000001", VaultKit.cat(3, 128));
        levels("one, and eight: all in GROUPS", "011111111", VaultKit.cat(5, 254, 1));
        levels("a group, and seven", "0111111100000000".substring(0, 15), VaultKit.cat(5, 254, 0));
        levels("a group, and eight", "0111111100000000", VaultKit.cat(3, 254, 16, 0));
        levels("the group's last ones and more are the same", "0111111111111111", VaultKit.cat(3, 254, 16, 1));
        levels("the group's last ones and fewer", "011111111111111", VaultKit.cat(5, 254, 127));
        levels("two groups, then one", "0101010101010101" + "11111111", VaultKit.cat(5, 0xaa, 0xaa, 16, 1));
        levels("one, then a group", "11111111" + "10", VaultKit.cat(18, 1, 3, 0));
        levels("one, then a group that begins with others", "11111111" + "01111111" + "0", VaultKit.cat(16, 1, 5, 254, 0));
        levels("64 that are the same", "1".repeat(64), VaultKit.cat(128, 1, 1));
        levels("63 that are the same", "1".repeat(63), VaultKit.cat(126, 1));
    }

    /** "RUNS of m numbers (of none: no bytes)": pages without any values. */
    private static void runsOfNone() {
        String[] types = {"bool", "int", "long", "text"};
        for (int type = 0; type < 4; type++) {
            byte[] page = VaultKit.page(VaultKit.cat(2, 2, 0), 2, 3, 0);
            bytes("no values", VaultKit.vault("optional " + types[type] + " a;", "{}", "{}"), one(1 + 3 * type, 2, page, 2, 2));
        }
    }

    /** "of a WIDTH w (0, too: numbers, groups in no bytes)", "0 for d 0", "the least by which d - 1 can be told". */
    private static void runsWithoutBits() {
        String text = "a long text, again and again";
        byte[] told = VaultKit.sized(text);
        for (int count = 2; count < 12; count++) {
            StripedVault v = VaultKit.vault("required text a;");
            for (int k = 0; k < count; k++) {
                VaultKit.due("record", VaultKit.record(v, "{a:'" + text + "'}"), -1);
            }
            byte[] runs = VaultKit.varint(count < 8 ? 3 : 2L * count);
            byte[] page = VaultKit.page(VaultKit.cat(count, 0, 3, told, told), 1, told, 0, runs);
            bytes(count + " times one text", v, one(9, count, page, count, 0, told, told));
        }
    }

    private static void widthOfADictionary() {
        int[] sizes = {2, 3, 4, 5, 8, 9, 16, 17};
        int[] widths = {1, 2, 2, 3, 3, 4, 4, 5};
        for (int k = 0; k < sizes.length; k++) {
            int d = sizes[k];
            StripedVault v = VaultKit.vault("required text a;");
            byte[] values = new byte[0];
            long[] numbers = new long[4 * d];
            for (int n = 0; n < 4 * d; n++) {
                String text = (char) ('a' + n % d) + "z".repeat(20);
                VaultKit.due("record", VaultKit.record(v, "{a:'" + text + "'}"), -1);
                numbers[n] = n % d;
                values = n < d ? VaultKit.cat(values, VaultKit.sized(text)) : values;
            }
            byte[] bounds = VaultKit.cat(VaultKit.sized("a" + "z".repeat(20)), VaultKit.sized((char) ('a' + d - 1) + "z".repeat(20)));
            byte[] page = VaultKit.page(VaultKit.cat(4 * d, 0, 3, bounds), d, values, widths[k], VaultKit.groups(widths[k], numbers));
            bytes("a dictionary of " + d, v, one(9, 4 * d, page, 4 * d, 0, bounds));
        }
    }

    /** "the coding is the one that makes the shortest BODY, the first one of several". */
    private static void firstOfSeveralCodings() {
        // PLAIN has four bytes; the CODE of 8192 has as many, that of 8191 one less.
        bytes("an int, PLAIN as short as the CODE", numbers("int", 8192),
                one(3, 1, VaultKit.page(VaultKit.cat(1, 0, 0, told(8192), told(8192)), VaultKit.low4(8192)), 1, 0, told(8192), told(8192)));
        bytes("an int, the CODE is shorter", numbers("int", 8191), coded(3, 8191, 8191, 8191));
        long wide = 1L << 41;
        bytes("a long, PLAIN as short as the CODE", numbers("long", wide),
                one(6, 1, VaultKit.page(VaultKit.cat(1, 0, 0, told(wide), told(wide)), 0, 0, 0, 0, 0, 2, 0, 0), 1, 0, told(wide), told(wide)));
        bytes("a long, the CODE is shorter", numbers("long", wide - 1), coded(6, wide - 1, wide - 1, wide - 1));
    }

    /** "what is open stays as it was opened, also by take and poke". */
    private static void whatIsOpenStays() {
        StripedVault v = VaultKit.opened(VaultKit.vault("required text a;", "{a:'one'}", "{a:'two'}"), 1, 1);
        VaultKit.due("query", VaultKit.query(v, "select a where a > 'p'"), -1);
        VaultKit.due("schema", VaultKit.schema(v, "required int b;"), -1);
        VaultKit.due("record", VaultKit.record(v, "{b:5}"), -1);
        VaultKit.due("write", v.write(1, 1) > 0, true);
        VaultKit.due("rows", v.opened(0), 2);
        VaultKit.due("row", VaultKit.show(v, 0), "{a:'one'}");
        for (int k = 0; k < v.size(); k++) {
            v.poke(k, 255);
        }
        VaultKit.due("row", VaultKit.show(v, 1), "{a:'two'}");
        VaultKit.input(v, "xyz");
        v.take();
        VaultKit.due("run", v.run(), 1);
        VaultKit.due("row", v.row(0), 1);
        VaultKit.due("answer", v.answer(0), 9);
        VaultKit.due("output", VaultKit.output(v), "{a:'two'}");
        VaultKit.due("open", v.open(), 13);
        VaultKit.due("nothing is open", v.opened(0), -1);
    }
}

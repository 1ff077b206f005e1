/** Promises 1 to 3 and 9 to 12, at the last case that still can be and at the first one that can't. */
public final class EdgeTapeTest {
    private static final int LOWEST = Integer.MIN_VALUE;
    private static final int HIGHEST = Integer.MAX_VALUE;

    public static void main(String[] args) {
        roomOfTheTape();
        as512Calls();
        howManyAreCutOff();
        refusedEndChangesNothing();
        cutOffTwice();
        usedUpInAnyCase();
        nothingElseUsesItUp();
        takeOfNothing();
        bytesOfTheFile();
        lowestEightBits();
        VaultKit.finish();
    }

    /** "at most 40000", "false if it hasn't room": beyond 512 calls, where answers are free, but the bound is the same. */
    private static void roomOfTheTape() {
        StripedVault v = new StripedVault();
        for (int k = 0; k < 1999; k++) {
            VaultKit.due("feed " + k, v.feed(k, 0, 0, 0, k), true);
        }
        VaultKit.due("the last twenty", v.feed(1, 2, 3, 4, 0x05060708), true);
        VaultKit.due("twenty more", v.feed(9, 9, 9, 9, 9), false);
        VaultKit.due("twenty more", v.feed(9, 9, 9, 9, 9), false);
        VaultKit.due("more than 40000", v.end(40001), false);
        VaultKit.due("40000", v.end(40000), true);
        v.take();
        VaultKit.due("size", v.size(), 40000);
        VaultKit.due("the last byte", v.byteOf(39999), 8);
        VaultKit.due("none behind it", v.byteOf(40000), -1);
        VaultKit.due("the first byte of the last twenty", v.byteOf(39983), 1);
        VaultKit.due("there is room again", v.feed(1, 2, 3, 4, 5), true);
    }

    /** "An object is used for at most 512 calls": the last ones of them answer like the others. */
    private static void as512Calls() {
        StripedVault v = new StripedVault();
        for (int k = 0; k < 506; k++) {
            VaultKit.due("feed", v.feed(k, k, k, k, k), true);
        }
        VaultKit.due("end", v.end(10121), false);
        VaultKit.due("end", v.end(10120), true);
        v.take();
        VaultKit.due("size", v.size(), 10120);
        VaultKit.due("the last byte", v.byteOf(10119), 505 & 255);
        VaultKit.due("open", v.open(), 13);
    }

    /** "the first n bytes of the tape, which is empty then; false if it hasn't so many, or n is below 0". */
    private static void howManyAreCutOff() {
        for (int n = 0; n <= 20; n++) {
            StripedVault v = new StripedVault();
            v.feed(0x01020304, 0x05060708, 0x090a0b0c, 0x0d0e0f10, 0x11121314);
            VaultKit.due("end(" + n + ")", v.end(n), true);
            VaultKit.due("the tape is empty", v.end(1), false);
            VaultKit.due("nothing of nothing", v.feed(0x21000000, 0, 0, 0, 0), true);
            v.take();
            VaultKit.due("size", v.size(), n);
            for (int k = 0; k < n; k++) {
                VaultKit.due("byte " + k, v.byteOf(k), k + 1);
            }
            VaultKit.due("behind", v.byteOf(n), -1);
            VaultKit.due("what comes then comes first", v.end(1), true);
            v.take();
            VaultKit.due("byte", v.byteOf(0), 0x21);
        }
        int[] wrong = {-1, LOWEST, 1, HIGHEST};
        for (int n : wrong) {
            VaultKit.due("end(" + n + ") of an empty tape", new StripedVault().end(n), false);
            StripedVault v = new StripedVault();
            v.feed(0, 0, 0, 0, 0);
            VaultKit.due("end(" + n + ") of twenty", v.end(n > 0 && n < 20 ? 21 : n), false);
        }
        VaultKit.due("end(0) of an empty tape", new StripedVault().end(0), true);
    }

    private static void refusedEndChangesNothing() {
        StripedVault v = new StripedVault();
        v.feed(0x61620000, 0, 0, 0, 0);
        v.end(2);
        v.feed(0x63640000, 0, 0, 0, 0);
        VaultKit.due("too many", v.end(21), false);
        VaultKit.due("below 0", v.end(-1), false);
        v.take();
        VaultKit.due("the INPUT stayed", v.size(), 2);
        VaultKit.due("the INPUT stayed", v.byteOf(0), 'a');
        VaultKit.due("the tape stayed", v.end(20), true);
        v.take();
        VaultKit.due("the tape stayed", v.byteOf(1), 'd');
        v.feed(0x65660000, 0, 0, 0, 0);
        v.end(2);
        VaultKit.due("none of none", v.end(0), true);
        v.take();
        VaultKit.due("the INPUT is none then", v.size(), 0);
    }

    /** The tape is empty behind end, whatever was INPUT before. */
    private static void cutOffTwice() {
        StripedVault v = new StripedVault();
        for (int k = 1; k < 5; k++) {
            VaultKit.due("feed", v.feed(k << 24, 0, 0, 0, 0), true);
            VaultKit.due("all of it", v.end(20), true);
            VaultKit.due("the tape is empty", v.end(1), false);
        }
        v.take();
        VaultKit.due("the latest one", v.byteOf(0), 4);
        VaultKit.due("size", v.size(), 20);
    }

    private static void usedUp(String what, StripedVault v) {
        v.take();
        VaultKit.due("the INPUT behind " + what, v.size(), 0);
    }

    /** "it is empty behind schema, record, take, query (these use it up, in any case)". */
    private static void usedUpInAnyCase() {
        StripedVault v = new StripedVault();
        VaultKit.due("no schema", VaultKit.record(v, "{}"), -2);
        usedUp("record without a schema", v);
        VaultKit.due("no schema, too long", VaultKit.record(v, " ".repeat(4001)), -2);
        usedUp("a long record without a schema", v);
        VaultKit.due("a fault", VaultKit.schema(v, "?"), 0);
        usedUp("a schema with a fault", v);
        v = new StripedVault();
        VaultKit.due("too long", VaultKit.schema(v, " ".repeat(4001)), 4000);
        usedUp("a schema that is too long", v);
        VaultKit.due("good", VaultKit.schema(v, "optional text a;"), -1);
        usedUp("a schema", v);
        VaultKit.due("a fault", VaultKit.record(v, "?"), 0);
        usedUp("a record with a fault", v);
        VaultKit.due("good", VaultKit.record(v, "{}"), -1);
        usedUp("a record", v);
        v = VaultKit.vault("optional text a;");
        VaultKit.due("too long", VaultKit.record(v, " ".repeat(4001)), 4000);
        usedUp("a record that is too long", v);
        VaultKit.due("nothing open", VaultKit.query(v, "select a"), -2);
        usedUp("a query, nothing open", v);
        VaultKit.opened(v, 1, 1);
        VaultKit.due("a fault", VaultKit.query(v, "?"), 0);
        usedUp("a query with a fault", v);
        VaultKit.due("good", VaultKit.query(v, "select a"), -1);
        usedUp("a query", v);
        VaultKit.due("too long", VaultKit.query(v, " ".repeat(2001)), 2000);
        usedUp("a query that is too long", v);
        v = VaultKit.vault("repeated group g{optional int a;optional int b;optional int c;}");
        VaultKit.due("3903 entries", VaultKit.record(v, "{g:[{}" + ",{}".repeat(1300) + "]}"), -1);
        VaultKit.due("7806 entries", VaultKit.record(v, "{g:[{}" + ",{}".repeat(1300) + "]}"), -1);
        VaultKit.due("more than 10000 entries", VaultKit.record(v, "{g:[{}" + ",{}".repeat(1300) + "]}"), -2);
        usedUp("a record too many", v);
        VaultKit.input(v, "abc");
        v.take();
        usedUp("take", v);
    }

    private static void nothingElseUsesItUp() {
        StripedVault v = VaultKit.vault("optional text a;", "{}");
        VaultKit.opened(v, 1, 1);
        VaultKit.query(v, "select a");
        VaultKit.input(v, "abc");
        v.feed(1, 2, 3, 4, 5);
        v.end(-1);
        v.end(21);
        v.records();
        v.clear();
        v.write(1, 1);
        v.size();
        v.byteOf(0);
        v.poke(0, 83);
        v.open();
        v.fault(0);
        v.opened(0);
        v.show(0);
        v.run();
        v.row(0);
        v.answer(0);
        v.kind(0, 0);
        v.value(0, 0);
        v.letter(0, 0, 0);
        v.skipped(0);
        v.output(0);
        v.take();
        VaultKit.due("the INPUT", v.size(), 3);
        VaultKit.due("the INPUT", v.byteOf(2), 'c');
        VaultKit.due("the tape", v.end(20), true);
    }

    /** The FILE before is gone: it doesn't come back as the INPUT. */
    private static void takeOfNothing() {
        StripedVault w = VaultKit.taken(VaultKit.bytes("xyz"));
        VaultKit.input(w, "ab");
        w.take();
        VaultKit.due("the INPUT", w.size(), 2);
        w.take();
        VaultKit.due("no INPUT", w.size(), 0);
        StripedVault v = VaultKit.vault("optional int a;");
        VaultKit.due("write", v.write(1, 1) > 0, true);
        v.take();
        VaultKit.due("no INPUT: no bytes", v.size(), 0);
        VaultKit.due("no byte", v.byteOf(0), -1);
        VaultKit.due("no frame", v.open(), 13);
    }

    /** "NONE if there is none", "false if there is none". */
    private static void bytesOfTheFile() {
        StripedVault v = VaultKit.taken(VaultKit.bytes("abcdefghijklmnopqrstu"));
        int[] none = {-1, 21, 22, LOWEST, HIGHEST};
        for (int k : none) {
            VaultKit.due("byteOf(" + k + ")", v.byteOf(k), -1);
            VaultKit.due("poke(" + k + ")", v.poke(k, 7), false);
        }
        for (int k = 0; k < 21; k++) {
            VaultKit.due("byteOf(" + k + ")", v.byteOf(k), 'a' + k);
        }
        VaultKit.due("size", v.size(), 21);
        VaultKit.due("poke the first one", v.poke(0, 'A'), true);
        VaultKit.due("poke the last one", v.poke(20, 'U'), true);
        VaultKit.due("the first one", v.byteOf(0), 'A');
        VaultKit.due("the last one", v.byteOf(20), 'U');
        VaultKit.due("the second one", v.byteOf(1), 'b');
        VaultKit.due("the last but one", v.byteOf(19), 't');
        VaultKit.due("size", v.size(), 21);
    }

    private static void lowestEightBits() {
        StripedVault v = VaultKit.taken(VaultKit.bytes("ab"));
        int[] values = {0, 1, 127, 128, 255, 256, 257, 511, 65535, -1, -128, -129, -256, LOWEST, HIGHEST};
        for (int value : values) {
            VaultKit.due("poke(1, " + value + ")", v.poke(1, value), true);
            VaultKit.due("byte", v.byteOf(1), value & 255);
            VaultKit.due("the other byte", v.byteOf(0), 'a');
        }
    }
}

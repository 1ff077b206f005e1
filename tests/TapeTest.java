/** Promises 1, 2, 3: a new object, the tape, the INPUT; and 9 to 12: the FILE as bytes. */
public final class TapeTest {
    public static void main(String[] args) {
        newObject();
        bytesOfTape();
        endOfTape();
        longTape();
        fullTape();
        fileAsBytes();
        inputIsUsedUp();
        VaultKit.finish();
    }

    private static void newObject() {
        StripedVault v = new StripedVault();
        VaultKit.due("NONE", StripedVault.NONE, -1);
        VaultKit.due("records", v.records(), 0);
        VaultKit.due("size", v.size(), 0);
        VaultKit.due("byteOf", v.byteOf(0), -1);
        VaultKit.due("poke", v.poke(0, 1), false);
        VaultKit.due("end(1) of an empty tape", v.end(1), false);
        VaultKit.due("end(0) of an empty tape", v.end(0), true);
        VaultKit.due("record without a schema", v.record(), -2);
        VaultKit.due("schema of no bytes", v.schema(), 0);
        VaultKit.due("query, nothing open", v.query(), -2);
        VaultKit.due("write without a schema", v.write(1, 1), -1);
        VaultKit.due("run", v.run(), -1);
        for (int k = -1; k < 6; k++) {
            VaultKit.due("fault", v.fault(k), -1);
            VaultKit.due("opened", v.opened(k), -1);
            VaultKit.due("show", v.show(k), -1);
            VaultKit.due("answer", v.answer(k), -1);
            VaultKit.due("row", v.row(k), -1);
            VaultKit.due("kind", v.kind(k, 0), -1);
            VaultKit.due("value", v.value(k, 0), 0);
            VaultKit.due("letter", v.letter(k, 0, 0), -1);
            VaultKit.due("output", v.output(k), -1);
            VaultKit.due("skipped", v.skipped(k), k == 0 || k == 1 ? 0 : -1);
        }
        VaultKit.due("open of no file", v.open(), 13);
        VaultKit.due("end(-1)", v.end(-1), false);
    }

    private static void bytesOfTape() {
        StripedVault v = new StripedVault();
        VaultKit.due("feed", v.feed(0x01020304, 0xfffefdfc, 0, -1, 0x7f00ff80), true);
        VaultKit.due("feed", v.feed(5, 6, 7, 8, 9), true);
        VaultKit.due("end", v.end(23), true);
        v.take();
        int[] want = {1, 2, 3, 4, 255, 254, 253, 252, 0, 0, 0, 0, 255, 255, 255, 255, 127, 0, 255, 128, 0, 0, 0};
        VaultKit.due("size", v.size(), want.length);
        for (int k = 0; k < want.length; k++) {
            VaultKit.due("byte " + k, v.byteOf(k), want[k]);
        }
        VaultKit.due("byte behind", v.byteOf(23), -1);
    }

    private static void endOfTape() {
        StripedVault v = new StripedVault();
        v.feed(0x61616161, 0, 0, 0, 0);
        VaultKit.due("more than there is", v.end(21), false);
        VaultKit.due("below 0", v.end(-1), false);
        VaultKit.due("lowest", v.end(Integer.MIN_VALUE), false);
        VaultKit.due("the tape stayed", v.end(20), true);
        VaultKit.due("the tape is empty then", v.end(1), false);
        v.take();
        VaultKit.due("size", v.size(), 20);
        v.feed(0, 0, 0, 0, 0);
        v.end(0);
        VaultKit.due("cut off nothing: empty, too", v.end(1), false);
        v.take();
        VaultKit.due("size of nothing", v.size(), 0);
    }

    /** 500 calls give 10000 bytes: all of them are kept, in their order. */
    private static void longTape() {
        StripedVault v = new StripedVault();
        for (int k = 0; k < 500; k++) {
            VaultKit.due("feed", v.feed(k, k, k, k, k), true);
        }
        VaultKit.due("end", v.end(10000), true);
        v.take();
        VaultKit.due("size", v.size(), 10000);
        VaultKit.due("last", v.byteOf(9999), 499 & 255);
        VaultKit.due("last but one", v.byteOf(9998), 499 >> 8);
    }

    /** What calls beyond the 512th answer is free; here the tape is full at 40000 bytes all the same. */
    private static void fullTape() {
        StripedVault v = new StripedVault();
        for (int k = 0; k < 2000; k++) {
            VaultKit.due("feed", v.feed(0, 0, 0, 0, k), true);
        }
        VaultKit.due("no room", v.feed(1, 2, 3, 4, 5), false);
        VaultKit.due("end", v.end(40000), true);
        v.take();
        VaultKit.due("size", v.size(), 40000);
        VaultKit.due("last", v.byteOf(39999), 1999 & 255);
    }

    private static void fileAsBytes() {
        StripedVault v = VaultKit.taken(VaultKit.bytes("abc"));
        VaultKit.due("byteOf(-1)", v.byteOf(-1), -1);
        VaultKit.due("byteOf(3)", v.byteOf(3), -1);
        VaultKit.due("byteOf lowest", v.byteOf(Integer.MIN_VALUE), -1);
        VaultKit.due("poke(-1)", v.poke(-1, 0), false);
        VaultKit.due("poke(3)", v.poke(3, 0), false);
        VaultKit.due("poke", v.poke(1, 0x1ff), true);
        VaultKit.due("lowest eight bits", v.byteOf(1), 255);
        VaultKit.due("poke", v.poke(2, -2), true);
        VaultKit.due("lowest eight bits", v.byteOf(2), 254);
        VaultKit.due("others stay", v.byteOf(0), 'a');
        VaultKit.input(v, "x");
        VaultKit.due("the file isn't the input", v.byteOf(0), 'a');
        v.take();
        VaultKit.due("size", v.size(), 1);
        VaultKit.due("now it is", v.byteOf(0), 'x');
    }

    private static void inputIsUsedUp() {
        StripedVault v = new StripedVault();
        VaultKit.due("schema", VaultKit.schema(v, "required int a;"), -1);
        VaultKit.due("used up", v.schema(), 0);
        VaultKit.due("record", VaultKit.record(v, "{a:1}"), -1);
        VaultKit.due("used up", v.record(), 0);
        VaultKit.input(v, "select a");
        VaultKit.due("nothing open", v.query(), -2);
        v.write(1, 1);
        v.open();
        VaultKit.due("used up all the same", v.query(), 0);
        VaultKit.input(v, "@");
        v.schema();
        v.take();
        VaultKit.due("used up by a fault", v.size(), 0);
        VaultKit.input(v, "ab");
        v.take();
        v.take();
        VaultKit.due("used up by take", v.size(), 0);
    }
}

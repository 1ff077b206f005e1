import java.io.ByteArrayOutputStream;
import java.nio.charset.StandardCharsets;
import java.util.Arrays;
import java.util.zip.CRC32;

/** What the tests share: feeding texts, counting wrong answers, and files made byte by byte. */
final class VaultKit {
    private static int checks = 0;
    private static int wrong = 0;

    private VaultKit() {
    }

    static void due(String what, long got, long want) {
        checks++;
        if (got != want) {
            wrong++;
            System.out.println(what + " answered " + got + ", due is " + want);
        }
    }

    static void due(String what, boolean got, boolean want) {
        due(what, got ? 1 : 0, want ? 1 : 0);
    }

    static void due(String what, String got, String want) {
        checks++;
        if (!got.equals(want)) {
            wrong++;
            System.out.println(what + " is " + got + ", due is " + want);
        }
    }

    static void finish() {
        System.out.println(checks + " answers, " + wrong + " wrong");
        if (wrong > 0 || checks == 0) {
            System.exit(1);
        }
    }

    /** A text as bytes, each character one. */
    static byte[] bytes(String text) {
        return text.getBytes(StandardCharsets.ISO_8859_1);
    }

    static void input(StripedVault vault, byte[] bytes) {
        for (int from = 0; from < bytes.length; from += 20) {
            int[] five = new int[5];
            for (int k = 0; k < 20; k++) {
                int b = from + k < bytes.length ? bytes[from + k] & 255 : 0;
                five[k / 4] = five[k / 4] << 8 | b;
            }
            due("feed", vault.feed(five[0], five[1], five[2], five[3], five[4]), true);
        }
        due("end", vault.end(bytes.length), true);
    }

    static void input(StripedVault vault, String text) {
        input(vault, bytes(text));
    }

    static int schema(StripedVault vault, String text) {
        input(vault, text);
        return vault.schema();
    }

    static int record(StripedVault vault, String text) {
        input(vault, text);
        return vault.record();
    }

    static int query(StripedVault vault, String text) {
        input(vault, text);
        return vault.query();
    }

    /** A vault with a schema and records. */
    static StripedVault vault(String schema, String... records) {
        StripedVault vault = new StripedVault();
        due("schema " + schema, schema(vault, schema), -1);
        for (String record : records) {
            due("record " + record, record(vault, record), -1);
        }
        return vault;
    }

    static StripedVault opened(StripedVault vault, int page, int group) {
        due("write", vault.write(page, group) > 0, true);
        due("open", vault.open(), 0);
        return vault;
    }

    static StripedVault taken(byte[] file) {
        StripedVault vault = new StripedVault();
        input(vault, file);
        vault.take();
        return vault;
    }

    static String output(StripedVault vault) {
        StringBuilder text = new StringBuilder();
        for (int k = 0; vault.output(k) != -1; k++) {
            text.append((char) vault.output(k));
        }
        return text.toString();
    }

    static String show(StripedVault vault, int row) {
        int size = vault.show(row);
        String text = output(vault);
        due("size of row " + row, size, text.isEmpty() ? -1 : text.length());
        return text;
    }

    static byte[] file(StripedVault vault) {
        byte[] file = new byte[vault.size()];
        for (int k = 0; k < file.length; k++) {
            file[k] = (byte) vault.byteOf(k);
        }
        return file;
    }

    static String hex(byte[] bytes) {
        StringBuilder text = new StringBuilder();
        for (byte b : bytes) {
            text.append(String.format("%02x", b & 255));
        }
        return text.toString();
    }

    // Bytes of files, from numbers (each a byte), texts and other bytes.

    static byte[] cat(Object... parts) {
        ByteArrayOutputStream out = new ByteArrayOutputStream();
        for (Object part : parts) {
            if (part instanceof Integer) {
                out.write((Integer) part);
            } else if (part instanceof String) {
                out.writeBytes(bytes((String) part));
            } else {
                out.writeBytes((byte[]) part);
            }
        }
        return out.toByteArray();
    }

    static byte[] varint(long number) {
        ByteArrayOutputStream out = new ByteArrayOutputStream();
        long rest = number;
        while (rest >>> 7 != 0) {
            out.write((int) (rest & 127) | 128);
            rest >>>= 7;
        }
        out.write((int) rest);
        return out.toByteArray();
    }

    /** How many bytes, and these. */
    static byte[] sized(Object... parts) {
        byte[] bytes = cat(parts);
        return cat(varint(bytes.length), bytes);
    }

    static byte[] low4(long number) {
        return cat((int) number & 255, (int) (number >> 8) & 255, (int) (number >> 16) & 255, (int) (number >> 24) & 255);
    }

    static byte[] check(byte[] bytes) {
        CRC32 crc = new CRC32();
        crc.update(bytes);
        return low4(crc.getValue());
    }

    static long zigzag(long v) {
        return v << 1 ^ v >> 63;
    }

    /** Numbers of so many bits each, one behind the other, the lowest bit of the first byte first. */
    static byte[] bits(int width, long... numbers) {
        byte[] bytes = new byte[(width * numbers.length + 7) / 8];
        for (int k = 0; k < numbers.length * width; k++) {
            bytes[k / 8] |= (byte) ((numbers[k / width] >>> k % width & 1) << k % 8);
        }
        return bytes;
    }

    /** RUNS: so many times one number. */
    static byte[] same(int width, long number, int times) {
        byte[] bytes = new byte[(width + 7) / 8];
        for (int k = 0; k < bytes.length; k++) {
            bytes[k] = (byte) (number >>> 8 * k);
        }
        return cat(varint(2L * times), bytes);
    }

    /** RUNS: numbers in groups of eight. */
    static byte[] groups(int width, long... numbers) {
        int count = (numbers.length + 7) / 8;
        return cat(varint(2L * count + 1), bits(width, Arrays.copyOf(numbers, 8 * count)));
    }

    /** The CODE of numbers, with as little as can be. */
    static byte[] code(long... numbers) {
        byte[] all = varint(numbers.length);
        if (numbers.length > 0) {
            all = cat(all, varint(zigzag(numbers[0])));
        }
        for (int from = 1; from < numbers.length; from += 64) {
            int to = Math.min(from + 64, numbers.length);
            long least = Long.MAX_VALUE;
            for (int k = from; k < to; k++) {
                least = Math.min(least, numbers[k] - numbers[k - 1]);
            }
            byte[] widths = new byte[4];
            byte[] parts = new byte[0];
            for (int first = from; first < to; first += 16) {
                long[] rest = new long[16];
                long most = 0;
                for (int k = first; k < first + 16 && k < to; k++) {
                    rest[k - first] = numbers[k] - numbers[k - 1] - least;
                    most |= rest[k - first];
                }
                int width = 64 - Long.numberOfLeadingZeros(most);
                widths[(first - from) / 16] = (byte) width;
                parts = cat(parts, bits(width, rest));
            }
            all = cat(all, varint(zigzag(least)), widths, parts);
        }
        return all;
    }

    /** A page: what comes before the size of the body, and the body. */
    static byte[] page(byte[] head, Object... body) {
        byte[] bytes = cat(body);
        return cat(head, varint(bytes.length), check(bytes), bytes);
    }

    /** A file: its chunks and its footer. */
    static byte[] frame(byte[] chunks, Object... footer) {
        byte[] bytes = cat(footer);
        return cat("STRB", chunks, bytes, low4(bytes.length), check(bytes), "STRB");
    }
}

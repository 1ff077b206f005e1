import java.util.Arrays;

/**
 * A store of nested records in one file of columns.
 *
 * <p>All rows are made in the constructors and used again by every call, because all calls of a run
 * share one room. Texts are kept as one long, their REFERENCE: where they begin in a row of bytes,
 * times 256, and how long they are (at most 255). So every value of any type is one long.
 */
public final class StripedVault {
    public static final int NONE = -1;

    private static final int REFUSED = -2;
    private static final long LOWEST_LONG = 1L << 63;

    private static final int MOST_BYTES = 40000;
    private static final int MOST_SOURCE = 4000;
    private static final int MOST_QUERY = 2000;
    private static final int MOST_OUTPUT = 100000;
    private static final int MOST_FIELDS = 128;
    private static final int MOST_COLUMNS = 64;
    private static final int MOST_DEPTH = 16;
    private static final int MOST_NAME = 16;
    private static final int MOST_TEXT = 255;
    private static final int MOST_ROWS = 2000;
    private static final int MOST_GROUPS = 500;
    private static final int MOST_ENTRIES = 10000;
    private static final int MOST_TEXTS = 60000;
    private static final int PAGE_ENTRIES = 1000;
    private static final int PAGE_TEXTS = 20000;
    // All values of a page, written in any coding, have fewer bytes: 20000 of texts, a thousand numbers.
    private static final int MOST_VALUES_BYTES = 32000;
    private static final int CODE_NUMBERS = 2000;
    private static final int TOLD_DICTIONARY = 100;
    private static final int MOST_OPENS = 100;
    private static final int MOST_ITEMS = 16;
    private static final int MOST_BYS = 8;
    private static final int MOST_NESTED = 32;
    private static final int MOST_STEPS = 64;
    private static final int MOST_LITERALS = 64;
    // A page has 11 bytes at least, a chunk 4 of the footer and a page: a file has no room for more.
    private static final int MOST_TELLERS = 6000;

    private static final int REQUIRED = 0;
    private static final int OPTIONAL = 1;
    private static final int REPEATED = 2;

    private static final int BOOL = 0;
    private static final int INT = 1;
    private static final int LONG = 2;
    private static final int TEXT = 3;
    private static final int GROUP = 4;

    private static final int CUT = 1;
    private static final int BAD_VARINT = 2;
    private static final int EMPTY = 3;
    private static final int MANY = 4;
    private static final int BITS = 5;
    private static final int MORE = 6;
    private static final int RANGE = 7;
    private static final int CHECK = 8;
    private static final int LEVELS = 9;
    private static final int NO_VALUES = 10;
    private static final int LEAST = 11;
    private static final int GREATEST = 12;
    private static final int FRAME = 13;
    private static final int FOOTER_CHECK = 14;
    private static final int SCHEMA = 15;
    private static final int ROWS = 16;
    private static final int PLACE = 17;
    private static final int PAGES = 18;
    private static final int BEGIN = 19;
    private static final int ORDER = 20;
    private static final int APART = 21;
    private static final int ROOM = 22;
    private static final int WORN = 23;

    private static final int TOLD_BYTES = 0;
    private static final int TOLD_PAGES = 1;
    private static final int TOLD_ENTRIES = 2;
    private static final int TOLD_NULLS = 3;
    private static final int TOLD_LEAST = 4;
    private static final int TOLD_GREATEST = 5;

    // An operator and its contrary differ in the lowest bit alone.
    private static final int IS = 0;
    private static final int IS_NOT = 1;
    private static final int BELOW = 2;
    private static final int NOT_BELOW = 3;
    private static final int ABOVE = 4;
    private static final int NOT_ABOVE = 5;
    private static final int NULL_TEST = 6;
    private static final int VALUE_TEST = 7;
    private static final int LIST_TEST = 8;
    private static final int NOT = 9;
    private static final int AND = 10;
    private static final int OR = 11;

    private static final int BY_PATH = 0;
    private static final int COUNT_ALL = 1;
    private static final int COUNT_OF = 2;
    private static final int SUM = 3;
    private static final int MIN = 4;
    private static final int MAX = 5;

    // Truths are bits, so that a set of truths that CAN be is a number, too.
    private static final int FALSE = 1;
    private static final int TRUE = 2;
    private static final int UNKNOWN = 4;

    private static final byte[] MAGIC = {83, 84, 82, 66};

    private static final int[] CRC_OF_NIBBLE = {
        0x00000000, 0x1db71064, 0x3b6e20c8, 0x26d930ac, 0x76dc4190, 0x6b6b51f4, 0x4db26158, 0x5005713c,
        0xedb88320, 0xf00f9344, 0xd6d6a3e8, 0xcb61b38c, 0x9b64c2b0, 0x86d3d2d4, 0xa00ae278, 0xbdbdf21c
    };

    private Sink tape;
    private Sink input;
    private Sink file;
    private final Scan scan;
    private Schema schema;
    private Schema spareSchema;
    private final Records records;
    private final Writer writer;
    private final Vault vault;
    private final Opener opener;
    private Query query;
    private Query spareQuery;
    private Answer answer;
    private Answer spareAnswer;
    private final Assembler assembler;

    public StripedVault() {
        tape = new Sink(MOST_BYTES);
        input = new Sink(MOST_BYTES);
        file = new Sink(MOST_BYTES);
        scan = new Scan();
        schema = new Schema();
        spareSchema = new Schema();
        records = new Records();
        writer = new Writer();
        vault = new Vault();
        opener = new Opener(vault);
        query = new Query();
        spareQuery = new Query();
        answer = new Answer();
        spareAnswer = new Answer();
        assembler = new Assembler(vault);
    }

    public boolean feed(int a, int b, int c, int d, int e) {
        if (tape.count + 20 > MOST_BYTES) {
            return false;
        }
        layFour(a);
        layFour(b);
        layFour(c);
        layFour(d);
        layFour(e);
        return true;
    }

    private void layFour(int four) {
        for (int shift = 24; shift >= 0; shift -= 8) {
            tape.put(four >>> shift);
        }
    }

    public boolean end(int n) {
        if (n < 0 || n > tape.count) {
            return false;
        }
        Sink before = input;
        input = tape;
        input.count = n;
        tape = before;
        tape.forget();
        return true;
    }

    public int schema() {
        int count = useInput();
        if (count > MOST_SOURCE) {
            return MOST_SOURCE;
        }
        scan.begin(input.bytes, count);
        int place = spareSchema.readText(scan);
        if (place != NONE) {
            return place;
        }
        Schema before = schema;
        schema = spareSchema;
        spareSchema = before;
        records.forget();
        return NONE;
    }

    private int useInput() {
        int count = input.count;
        input.forget();
        return count;
    }

    public int record() {
        int count = useInput();
        if (schema.fields == 0) {
            return REFUSED;
        }
        if (count > MOST_SOURCE) {
            return MOST_SOURCE;
        }
        scan.begin(input.bytes, count);
        return records.readText(scan, schema);
    }

    public int records() {
        return records.count;
    }

    public void clear() {
        records.forget();
    }

    public int write(int page, int group) {
        if (schema.fields == 0 || page < 1 || page > PAGE_ENTRIES || group < 1 || group > MOST_ROWS) {
            return NONE;
        }
        int rows = records.count;
        int groups = (rows + group - 1) / group;
        if (groups > MOST_GROUPS) {
            return NONE;
        }
        writer.begin(schema, records, groups);
        for (int g = 0; g < groups; g++) {
            int rowsHere = Math.min(group, rows - g * group);
            writer.beginGroup(rowsHere);
            for (int c = 0; c < schema.columns; c++) {
                if (!writer.putChunk(c, rowsHere, page)) {
                    return NONE;
                }
            }
        }
        if (!writer.finish()) {
            return NONE;
        }
        file = writer.giveFile(file);
        return file.count;
    }

    public void take() {
        Sink before = file;
        file = input;
        input = before;
        input.forget();
    }

    public int size() {
        return file.count;
    }

    public int byteOf(int k) {
        return k < 0 || k >= file.count ? NONE : file.bytes[k] & 255;
    }

    public boolean poke(int k, int v) {
        if (k < 0 || k >= file.count) {
            return false;
        }
        file.bytes[k] = (byte) v;
        return true;
    }

    public int open() {
        vault.ready = false;
        query.ready = false;
        answer.ready = false;
        int fault = opener.lookAtFrame(file.bytes, file.count);
        if (fault == 0) {
            fault = opener.lookAtFooter();
        }
        if (fault == 0) {
            fault = opener.lookAtChunks();
        }
        vault.ready = fault == 0;
        return fault;
    }

    public int fault(int what) {
        return what < 0 || what > 2 ? NONE : opener.where[what];
    }

    public int opened(int what) {
        if (!vault.ready) {
            return NONE;
        }
        switch (what) {
            case 0:
                return vault.rows;
            case 1:
                return vault.groups;
            case 2:
                return vault.schema.fields;
            case 3:
                return vault.schema.columns;
            case 4:
                return vault.pages;
            default:
                return NONE;
        }
    }

    public int show(int row) {
        return assembler.assemble(row, null);
    }

    public int query() {
        int count = useInput();
        if (!vault.ready) {
            return REFUSED;
        }
        if (count > MOST_QUERY) {
            return MOST_QUERY;
        }
        scan.begin(input.bytes, count);
        int place = spareQuery.readText(scan, vault.schema);
        if (place != NONE) {
            return place;
        }
        Query before = query;
        query = spareQuery;
        spareQuery = before;
        query.ready = true;
        return NONE;
    }

    public int run() {
        if (!query.ready || !spareAnswer.fill(vault, query)) {
            return NONE;
        }
        Answer before = answer;
        answer = spareAnswer;
        spareAnswer = before;
        answer.countSkipped();
        answer.ready = true;
        return answer.count;
    }

    public int row(int k) {
        return answer.rowAt(k);
    }

    public int answer(int k) {
        return assembler.assemble(answer.rowAt(k), answer.wanted);
    }

    public int kind(int k, int item) {
        int at = answer.placeOf(k, item);
        return at == NONE ? NONE : answer.forms[at];
    }

    public long value(int k, int item) {
        int at = answer.placeOf(k, item);
        return at == NONE || answer.forms[at] == 0 || answer.forms[at] == 3 ? 0 : answer.results[at];
    }

    public int letter(int k, int item, int i) {
        int at = answer.placeOf(k, item);
        if (at == NONE || answer.forms[at] != 3 || i < 0 || i >= sizeOf(answer.results[at])) {
            return NONE;
        }
        return vault.pool[placeOf(answer.results[at]) + i] & 255;
    }

    public int skipped(int what) {
        if (what != 0 && what != 1) {
            return NONE;
        }
        if (!answer.ready) {
            return 0;
        }
        return what == 0 ? answer.skippedGroups : answer.skippedStretches;
    }

    public int output(int k) {
        return k < 0 || k >= assembler.out.count ? NONE : assembler.out.bytes[k] & 255;
    }

    private static boolean isLetter(int c) {
        return c >= 'a' && c <= 'z' || c >= 'A' && c <= 'Z';
    }

    private static boolean isDigit(int c) {
        return c >= '0' && c <= '9';
    }

    private static boolean isOfWord(int c) {
        return c >= 'a' && c <= 'z' || c >= 'A' && c <= 'Z' || c >= '0' && c <= '9' || c == '_';
    }

    private static long reference(int place, int count) {
        return place * 256L + count;
    }

    private static int placeOf(long reference) {
        return (int) (reference >> 8);
    }

    private static int sizeOf(long reference) {
        return (int) (reference & 255);
    }

    private static long zigzag(long v) {
        return v << 1 ^ v >> 63;
    }

    private static long unzigzag(long z) {
        return z >>> 1 ^ -(z & 1);
    }

    /** How many bits it takes to tell a number without a sign. */
    private static int widthOf(long number) {
        int width = 0;
        while (width < 64 && number >>> width != 0) {
            width++;
        }
        return width;
    }

    /** Whether a number without a sign isn't above another one. */
    private static boolean within(long number, long most) {
        return number >= 0 && number <= most;
    }

    private static int checkOf(byte[] bytes, int from, int to) {
        int c = -1;
        for (int k = from; k < to; k++) {
            c ^= bytes[k] & 255;
            c = c >>> 4 ^ CRC_OF_NIBBLE[c & 15];
            c = c >>> 4 ^ CRC_OF_NIBBLE[c & 15];
        }
        return ~c;
    }

    private static int inCommon(byte[] bytes, long first, long second) {
        int most = (int) Math.min(first & 255, second & 255);
        int atFirst = (int) (first >> 8);
        int atSecond = (int) (second >> 8);
        int same = 0;
        while (same < most && bytes[atFirst + same] == bytes[atSecond + same]) {
            same++;
        }
        return same;
    }

    /** Below 0, 0 or above 0, as one value is less than, the same as or greater than another one. */
    private static int compareValues(int type, byte[] a, long first, byte[] b, long second) {
        if (type != TEXT) {
            return Long.compare(first, second);
        }
        int sizeA = (int) (first & 255);
        int sizeB = (int) (second & 255);
        int atA = (int) (first >> 8);
        int atB = (int) (second >> 8);
        int most = Math.min(sizeA, sizeB);
        for (int k = 0; k < most; k++) {
            if (a[atA + k] != b[atB + k]) {
                return (a[atA + k] & 255) - (b[atB + k] & 255);
            }
        }
        return sizeA - sizeB;
    }

    private static int hashOf(int type, byte[] bytes, long value) {
        int hash = 7;
        if (type == TEXT) {
            int from = (int) (value >> 8);
            int to = from + (int) (value & 255);
            for (int k = from; k < to; k++) {
                hash = hash * 31 + bytes[k];
            }
        } else {
            hash = (int) (value ^ value >>> 32);
        }
        hash *= 0x9e3779b1;
        return hash ^ hash >>> 15;
    }

    /** A text that is read from its beginning on: words, signs, numbers, texts in it. */
    private static final class Scan {
        byte[] bytes;
        int count;
        int pos;
        /** Where the first thing is that can't stand. */
        int place;
        int wordAt;
        int wordSize;
        long number;
        int textSize;

        Scan() {
            bytes = new byte[0];
            place = NONE;
        }

        void begin(byte[] source, int size) {
            bytes = source;
            count = Math.min(size, source.length);
            pos = 0;
            place = NONE;
        }

        boolean good() {
            return place == NONE;
        }

        void refuse(int at) {
            if (place == NONE) {
                place = at;
            }
        }

        int byteAt(int k) {
            return k < count ? bytes[k] & 255 : NONE;
        }

        /** Goes to the next word, sign, number or text: its first byte, NONE at the end. */
        int next() {
            while (pos < count && (bytes[pos] == ' ' || bytes[pos] == '\n')) {
                pos++;
            }
            return pos < count ? bytes[pos] & 255 : NONE;
        }

        boolean takeAnyWord() {
            if (!isLetter(next())) {
                return false;
            }
            wordAt = pos;
            while (pos < count && isOfWord(bytes[pos] & 255)) {
                pos++;
            }
            wordSize = pos - wordAt;
            return true;
        }

        boolean isWord(String word) {
            if (wordSize != word.length()) {
                return false;
            }
            for (int k = 0; k < wordSize; k++) {
                if ((bytes[wordAt + k] & 255) != word.charAt(k)) {
                    return false;
                }
            }
            return true;
        }

        boolean takeWord(String word) {
            if (!takeAnyWord()) {
                return false;
            }
            if (isWord(word)) {
                return true;
            }
            pos = wordAt;
            return false;
        }

        boolean takeSign(char sign) {
            if (next() != sign) {
                return false;
            }
            pos++;
            return true;
        }

        void needSign(char sign) {
            if (good() && !takeSign(sign)) {
                refuse(pos);
            }
        }

        void needWord(String word) {
            if (good() && !takeWord(word)) {
                refuse(pos);
            }
        }

        boolean atNumber() {
            int c = next();
            return c == '-' || isDigit(c);
        }

        /** Reads the number that begins here, in the range of 32 or 64 bits. */
        void readNumber(boolean wide) {
            int start = pos;
            boolean minus = byteAt(pos) == '-';
            if (minus) {
                pos++;
            }
            int first = pos;
            boolean fits = readDigits();
            int digits = pos - first;
            if (digits == 0) {
                refuse(first >= count ? count : start);
                return;
            }
            boolean zeroInFront = byteAt(first) == '0' && (minus || digits > 1);
            if (zeroInFront || !fits || !minus && number == LOWEST_LONG) {
                refuse(start);
                return;
            }
            if (!minus) {
                number = -number;
            }
            if (!wide && number != (int) number) {
                refuse(start);
            }
        }

        /** The number becomes what the digits from here on tell, but below 0, where there is one more. */
        private boolean readDigits() {
            boolean fits = true;
            number = 0;
            while (pos < count && isDigit(bytes[pos])) {
                int digit = bytes[pos] - '0';
                fits = fits && number >= (LOWEST_LONG + digit) / 10;
                if (fits) {
                    number = number * 10 - digit;
                }
                pos++;
            }
            return fits;
        }

        /** Reads the text that begins here into a row of bytes. */
        void readQuoted(byte[] into, int at) {
            textSize = 0;
            pos++;
            for (int guard = 0; guard <= count; guard++) {
                int c = byteAt(pos);
                if (c == NONE) {
                    refuse(count);
                    return;
                }
                if (c == '\'') {
                    pos++;
                    return;
                }
                if (c < 32 || c > 126 || textSize >= MOST_TEXT || at + textSize >= into.length) {
                    refuse(pos);
                    return;
                }
                int meant = c;
                if (c == '\\') {
                    meant = readEscape();
                } else {
                    pos++;
                }
                if (!good()) {
                    return;
                }
                into[at + textSize] = (byte) meant;
                textSize++;
            }
        }

        private int readEscape() {
            int c = byteAt(pos + 1);
            if (c == '\'' || c == '\\') {
                pos += 2;
                return c;
            }
            int high = c == 'x' ? hexAt(pos + 2) : NONE;
            int low = high == NONE ? NONE : hexAt(pos + 3);
            if (low == NONE) {
                int wrong = c != 'x' ? 1 : high == NONE ? 2 : 3;
                refuse(pos + wrong >= count ? count : pos);
                return 0;
            }
            pos += 4;
            return high * 16 + low;
        }

        private int hexAt(int k) {
            int c = k < count ? bytes[k] : NONE;
            if (c >= '0' && c <= '9') {
                return c - '0';
            }
            return c >= 'a' && c <= 'f' ? c - 'a' + 10 : NONE;
        }
    }

    /** The fields of a schema, in their order, a group before those in it. */
    private static final class Schema {
        int fields;
        int columns;
        final int[] mode = new int[MOST_FIELDS];
        final int[] type = new int[MOST_FIELDS];
        final int[] parent = new int[MOST_FIELDS];
        /** R and D of each field. */
        final int[] rep = new int[MOST_FIELDS];
        final int[] def = new int[MOST_FIELDS];
        /** How many groups lie around what lies in a group. */
        final int[] depth = new int[MOST_FIELDS];
        /** The first field behind a field and all that lie in it. */
        final int[] past = new int[MOST_FIELDS];
        /** A column's number; of a group that of the first one in it. */
        final int[] column = new int[MOST_FIELDS];
        final int[] fieldOf = new int[MOST_COLUMNS];
        final int[] nameSize = new int[MOST_FIELDS];
        final byte[] names = new byte[MOST_FIELDS * MOST_NAME];

        void forget() {
            fields = 0;
            columns = 0;
        }

        int firstIn(int group) {
            return group == NONE ? 0 : group + 1;
        }

        int pastOf(int group) {
            return group == NONE ? fields : past[group];
        }

        int repOf(int group) {
            return group == NONE ? 0 : rep[group];
        }

        int defOf(int group) {
            return group == NONE ? 0 : def[group];
        }

        /** How many columns come before a field (which may be one too many). */
        int columnsBefore(int field) {
            return field < fields ? column[field] : columns;
        }

        boolean isEmptyGroup(int field) {
            return type[field] == GROUP && past[field] == field + 1;
        }

        boolean isFlatColumn(int field) {
            return rep[field] == 0 && type[field] != GROUP;
        }

        boolean hasName(int field, byte[] bytes, int at, int count) {
            if (nameSize[field] != count) {
                return false;
            }
            int from = field * MOST_NAME;
            for (int k = 0; k < count; k++) {
                if (names[from + k] != bytes[at + k]) {
                    return false;
                }
            }
            return true;
        }

        int find(int group, byte[] bytes, int at, int count) {
            int stop = pastOf(group);
            for (int f = firstIn(group); f < stop; f++) {
                if (parent[f] == group && hasName(f, bytes, at, count)) {
                    return f;
                }
            }
            return NONE;
        }

        /** One more field, or false if there can't be such a one. */
        boolean add(int itsMode, int itsType, int group, byte[] bytes, int at, int count) {
            int around = group == NONE ? 0 : depth[group];
            boolean tooMany = itsType == GROUP ? around >= MOST_DEPTH : columns >= MOST_COLUMNS;
            if (fields >= MOST_FIELDS || tooMany || count < 1 || count > MOST_NAME
                    || find(group, bytes, at, count) != NONE) {
                return false;
            }
            int f = fields;
            mode[f] = itsMode;
            type[f] = itsType;
            parent[f] = group;
            rep[f] = repOf(group) + (itsMode == REPEATED ? 1 : 0);
            def[f] = defOf(group) + (itsMode == REQUIRED ? 0 : 1);
            depth[f] = around + (itsType == GROUP ? 1 : 0);
            column[f] = columns;
            nameSize[f] = count;
            System.arraycopy(bytes, at, names, f * MOST_NAME, count);
            fields++;
            past[f] = fields;
            int g = group;
            for (int guard = 0; guard <= MOST_DEPTH && g != NONE; guard++) {
                past[g] = fields;
                g = parent[g];
            }
            if (itsType != GROUP) {
                fieldOf[columns] = f;
                columns++;
            }
            return true;
        }

        /** Reads a SCHEMA: the place of what can't stand in it. */
        int readText(Scan scan) {
            forget();
            int group = NONE;
            for (int guard = 0; guard <= scan.count && scan.good(); guard++) {
                int c = scan.next();
                if (c == NONE && group == NONE && fields > 0) {
                    return NONE;
                }
                if (c == '}' && group != NONE && !isEmptyGroup(group)) {
                    scan.needSign('}');
                    group = parent[group];
                } else {
                    group = readField(scan, group);
                }
            }
            return scan.place;
        }

        /** The group in which the next field lies. */
        private int readField(Scan scan, int group) {
            int itsMode = readMode(scan);
            int itsType = readType(scan);
            if (scan.good() && !scan.takeAnyWord()) {
                scan.refuse(scan.pos);
            }
            if (!scan.good()) {
                return group;
            }
            if (!add(itsMode, itsType, group, scan.bytes, scan.wordAt, scan.wordSize)) {
                scan.refuse(scan.wordAt);
                return group;
            }
            scan.needSign(itsType == GROUP ? '{' : ';');
            return itsType == GROUP ? fields - 1 : group;
        }

        private int readMode(Scan scan) {
            if (scan.takeWord("required")) {
                return REQUIRED;
            }
            if (scan.takeWord("optional")) {
                return OPTIONAL;
            }
            scan.needWord("repeated");
            return REPEATED;
        }

        private int readType(Scan scan) {
            if (!scan.good()) {
                return BOOL;
            }
            if (scan.takeWord("bool")) {
                return BOOL;
            }
            if (scan.takeWord("int")) {
                return INT;
            }
            if (scan.takeWord("long")) {
                return LONG;
            }
            if (scan.takeWord("text")) {
                return TEXT;
            }
            scan.needWord("group");
            return GROUP;
        }
    }

    /** The records, as entries of columns; those of one column are a chain. */
    private static final class Records {
        int count;
        private int entries;
        private int textEnd;
        /** Entries and bytes of texts with those of the record that is being read. */
        private int fresh;
        private int freshTextEnd;
        final byte[] rep = new byte[MOST_ENTRIES];
        final byte[] def = new byte[MOST_ENTRIES];
        final long[] val = new long[MOST_ENTRIES];
        private final byte[] columnOf = new byte[MOST_ENTRIES];
        final int[] next = new int[MOST_ENTRIES];
        final int[] head = new int[MOST_COLUMNS];
        private final int[] tail = new int[MOST_COLUMNS];
        final byte[] texts = new byte[MOST_TEXTS + MOST_SOURCE];
        private Scan scan;
        private Schema schema;

        Records() {
            Arrays.fill(head, NONE);
            Arrays.fill(tail, NONE);
        }

        void forget() {
            count = 0;
            entries = 0;
            textEnd = 0;
            Arrays.fill(head, NONE);
            Arrays.fill(tail, NONE);
        }

        /** Reads a RECORD: the place of what can't stand in it, or -2. */
        int readText(Scan itsScan, Schema itsSchema) {
            scan = itsScan;
            schema = itsSchema;
            fresh = entries;
            freshTextEnd = textEnd;
            readGroup(NONE, 0, 0);
            if (scan.good() && scan.next() != NONE) {
                scan.refuse(scan.pos);
            }
            if (!scan.good()) {
                return scan.place;
            }
            if (count >= MOST_ROWS || fresh > MOST_ENTRIES || freshTextEnd > MOST_TEXTS) {
                return REFUSED;
            }
            keep();
            return NONE;
        }

        /** Only now: what is read before may still be refused. */
        private void keep() {
            for (int e = entries; e < fresh; e++) {
                int c = columnOf[e];
                next[e] = NONE;
                if (tail[c] == NONE) {
                    head[c] = e;
                } else {
                    next[tail[c]] = e;
                }
                tail[c] = e;
            }
            entries = fresh;
            textEnd = freshTextEnd;
            count++;
        }

        private void enter(int column, int itsRep, int itsDef, long value) {
            if (fresh < MOST_ENTRIES) {
                columnOf[fresh] = (byte) column;
                rep[fresh] = (byte) itsRep;
                def[fresh] = (byte) itsDef;
                val[fresh] = value;
            }
            fresh++;
        }

        /** Entries of the columns of the fields of a group from one field to another, which lack. */
        private void enterMissing(int from, int to, int itsRep, int group) {
            int stop = schema.columnsBefore(to);
            for (int c = schema.columnsBefore(from); c < stop; c++) {
                enter(c, itsRep, schema.defOf(group), 0);
            }
        }

        private void readGroup(int group, int itsRep, int depth) {
            if (depth > MOST_DEPTH) {
                scan.refuse(scan.pos);
            }
            scan.needSign('{');
            int f = schema.firstIn(group);
            int stop = schema.pastOf(group);
            boolean more = scan.good() && scan.next() != '}';
            for (int guard = 0; guard <= MOST_FIELDS && more; guard++) {
                int named = readName(f, stop, group);
                scan.needSign(':');
                if (!scan.good()) {
                    return;
                }
                enterMissing(f, named, itsRep, group);
                readValues(named, itsRep, depth);
                f = schema.past[named];
                more = scan.good() && scan.takeSign(',');
            }
            if (scan.good() && someRequired(f, stop, group)) {
                scan.next();
                scan.refuse(scan.pos);
            }
            scan.needSign('}');
            if (scan.good()) {
                enterMissing(f, stop, itsRep, group);
            }
        }

        private boolean someRequired(int from, int stop, int group) {
            for (int f = from; f < stop; f++) {
                if (schema.parent[f] == group && schema.mode[f] == REQUIRED) {
                    return true;
                }
            }
            return false;
        }

        /** The field that is named next; a required one can't be missed out. */
        private int readName(int from, int stop, int group) {
            if (!scan.takeAnyWord()) {
                scan.refuse(scan.pos);
                return NONE;
            }
            boolean missed = false;
            for (int f = from; f < stop && !missed; f++) {
                if (schema.parent[f] == group) {
                    if (schema.hasName(f, scan.bytes, scan.wordAt, scan.wordSize)) {
                        return f;
                    }
                    missed = schema.mode[f] == REQUIRED;
                }
            }
            scan.refuse(scan.wordAt);
            return NONE;
        }

        private void readValues(int field, int itsRep, int depth) {
            if (schema.mode[field] != REPEATED) {
                readOne(field, itsRep, depth);
                return;
            }
            scan.needSign('[');
            if (!scan.good()) {
                return;
            }
            if (scan.takeSign(']')) {
                enterMissing(field, schema.past[field], itsRep, schema.parent[field]);
                return;
            }
            int level = itsRep;
            boolean more = true;
            for (int guard = 0; guard <= scan.count && more; guard++) {
                readOne(field, level, depth);
                level = schema.rep[field];
                more = scan.good() && scan.takeSign(',');
            }
            scan.needSign(']');
        }

        private void readOne(int field, int itsRep, int depth) {
            if (schema.type[field] == GROUP) {
                readGroup(field, itsRep, depth + 1);
                return;
            }
            long value = readValue(schema.type[field]);
            if (scan.good()) {
                enter(schema.column[field], itsRep, schema.def[field], value);
            }
        }

        private long readValue(int type) {
            if (type == BOOL) {
                if (scan.takeWord("true")) {
                    return 1;
                }
                scan.needWord("false");
                return 0;
            }
            if (type == TEXT && scan.next() == '\'') {
                scan.readQuoted(texts, freshTextEnd);
                long reference = reference(freshTextEnd, scan.textSize);
                freshTextEnd += scan.textSize;
                return reference;
            }
            if (type != TEXT && scan.atNumber()) {
                scan.readNumber(type == LONG);
                return scan.number;
            }
            scan.refuse(scan.pos);
            return 0;
        }
    }

    /** A row of bytes that grows up to its room, but only when it must: most are short. */
    private static final class Sink {
        byte[] bytes;
        int count;
        /** Whether there were more bytes than it has room for. */
        boolean over;
        private final int room;
        private final int[] widths = new int[4];
        private int held;
        private int heldBits;

        Sink(int itsRoom) {
            room = itsRoom;
            bytes = new byte[Math.min(itsRoom, 512)];
        }

        void forget() {
            count = 0;
            over = false;
        }

        private boolean hasRoom(int more) {
            if (over || more > room - count) {
                over = true;
                return false;
            }
            if (more > bytes.length - count) {
                bytes = Arrays.copyOf(bytes, Math.min(room, Math.max(2 * bytes.length, count + more)));
            }
            return true;
        }

        void put(int v) {
            if (hasRoom(1)) {
                bytes[count] = (byte) v;
                count++;
            }
        }

        void putAll(byte[] from, int at, int size) {
            if (hasRoom(size)) {
                System.arraycopy(from, at, bytes, count, size);
                count += size;
            }
        }

        void putVarint(long number) {
            long rest = number;
            for (int k = 0; k < 10 && hasRoom(1); k++) {
                boolean last = rest >>> 7 == 0;
                bytes[count] = (byte) (rest & 127 | (last ? 0 : 128));
                count++;
                if (last) {
                    return;
                }
                rest >>>= 7;
            }
        }

        void putFixed(long number, int size) {
            for (int k = 0; k < size; k++) {
                put((int) (number >>> 8 * k));
            }
        }

        void putText(byte[] texts, long reference) {
            putVarint(sizeOf(reference));
            putAll(texts, placeOf(reference), sizeOf(reference));
        }

        /** A value as a LEAST or GREATEST one. */
        void putTold(int type, byte[] texts, long value) {
            if (type == TEXT) {
                putText(texts, value);
            } else if (type == BOOL) {
                put((int) value);
            } else {
                putVarint(zigzag(value));
            }
        }

        void putDecimal(long number) {
            int from = count;
            long rest = number;
            for (int k = 0; k < 20 && (k == 0 || rest != 0); k++) {
                put('0' + (int) Math.abs(rest % 10));
                rest /= 10;
            }
            if (number < 0) {
                put('-');
            }
            for (int low = from, high = count - 1; low < high; low++, high--) {
                byte swap = bytes[low];
                bytes[low] = bytes[high];
                bytes[high] = swap;
            }
        }

        /** Puts how many bytes there are from a place on in front of them. */
        void tellSizeFrom(int at) {
            int size = count - at;
            int lead = size < 128 ? 1 : size < 16384 ? 2 : 3;
            if (!hasRoom(lead)) {
                return;
            }
            System.arraycopy(bytes, at, bytes, at + lead, size);
            count = at;
            putVarint(size);
            count = at + lead + size;
        }

        private void putBits(long number, int width) {
            int done = 0;
            for (int k = 0; k < 10 && done < width; k++) {
                int part = Math.min(8 - heldBits, width - done);
                held |= (int) (number >>> done & (1 << part) - 1) << heldBits;
                heldBits += part;
                done += part;
                if (heldBits == 8) {
                    if (hasRoom(1)) {
                        bytes[count] = (byte) held;
                        count++;
                    }
                    held = 0;
                    heldBits = 0;
                }
            }
        }

        /** How many numbers from a place on are the same, as far as it matters. */
        private static int sameFrom(int[] numbers, int size, int at, int most) {
            int same = 1;
            while (same < most && at + same < size && numbers[at + same] == numbers[at]) {
                same++;
            }
            return same;
        }

        void putRuns(int[] numbers, int size, int width) {
            int at = 0;
            for (int guard = 0; guard < size && at < size; guard++) {
                int same = sameFrom(numbers, size, at, size);
                if (same >= 8) {
                    putVarint(2L * same);
                    putFixed(numbers[at], (width + 7) / 8);
                    at += same;
                } else {
                    at = putGroups(numbers, size, at, width);
                }
            }
        }

        private int putGroups(int[] numbers, int size, int from, int width) {
            int to = from + 8;
            while (to < size && sameFrom(numbers, size, to, 8) < 8) {
                to += 8;
            }
            putVarint((to - from) / 8 * 2L + 1);
            for (int k = from; k < to; k++) {
                putBits(k < size ? numbers[k] : 0, width);
            }
            return to;
        }

        void putCode(long[] numbers, int size) {
            putVarint(size);
            if (size > 0) {
                putVarint(zigzag(numbers[0]));
            }
            for (int from = 1; from < size; from += 64) {
                putBlock(numbers, from, Math.min(from + 64, size));
            }
        }

        private void putBlock(long[] numbers, int from, int to) {
            long least = numbers[from] - numbers[from - 1];
            for (int k = from; k < to; k++) {
                least = Math.min(least, numbers[k] - numbers[k - 1]);
            }
            putVarint(zigzag(least));
            for (int part = 0; part < 4; part++) {
                long all = 0;
                int stop = Math.min(from + 16 * part + 16, to);
                for (int k = from + 16 * part; k < stop; k++) {
                    all |= numbers[k] - numbers[k - 1] - least;
                }
                widths[part] = widthOf(all);
                put(widths[part]);
            }
            for (int part = 0; part < 4; part++) {
                int first = from + 16 * part;
                for (int k = first; k < first + 16 && first < to; k++) {
                    putBits(k < to ? numbers[k] - numbers[k - 1] - least : 0, widths[part]);
                }
            }
        }
    }

    /** Makes a FILE of records. */
    private static final class Writer {
        private Sink file = new Sink(MOST_BYTES);
        private final Sink footer = new Sink(MOST_BYTES);
        private final Sink body = new Sink(MOST_BYTES);
        private Sink best = new Sink(MOST_VALUES_BYTES);
        private Sink trial = new Sink(MOST_VALUES_BYTES);
        private Schema schema;
        private Records records;
        private final int[] cursor = new int[MOST_COLUMNS];
        /** The page that is being filled: its levels, and those values that there are. */
        private final int[] reps = new int[PAGE_ENTRIES];
        private final int[] defs = new int[PAGE_ENTRIES];
        private final long[] vals = new long[PAGE_ENTRIES];
        private int entries;
        private int values;
        private long least;
        private long greatest;
        private final int[] numbers = new int[PAGE_ENTRIES];
        private final long[] sizes = new long[PAGE_ENTRIES];
        private final long[] dictionary = new long[PAGE_ENTRIES];
        private final int[] slots = new int[2048];
        private final int[] usedSlots = new int[PAGE_ENTRIES];

        void begin(Schema itsSchema, Records itsRecords, int groups) {
            schema = itsSchema;
            records = itsRecords;
            System.arraycopy(records.head, 0, cursor, 0, MOST_COLUMNS);
            file.forget();
            file.putAll(MAGIC, 0, 4);
            footer.forget();
            footer.putVarint(schema.fields);
            for (int f = 0; f < schema.fields; f++) {
                footer.put(schema.mode[f] + 3 * schema.type[f]);
                footer.putVarint(schema.parent[f] + 1);
                footer.putVarint(schema.nameSize[f]);
                footer.putAll(schema.names, f * MOST_NAME, schema.nameSize[f]);
            }
            footer.putVarint(records.count);
            footer.putVarint(groups);
        }

        void beginGroup(int rows) {
            footer.putVarint(rows);
        }

        /** False if the FILE would be too long. */
        boolean finish() {
            file.putAll(footer.bytes, 0, footer.count);
            file.putFixed(footer.count, 4);
            file.putFixed(checkOf(footer.bytes, 0, footer.count), 4);
            file.putAll(MAGIC, 0, 4);
            return !file.over && !footer.over;
        }

        /** Hands out the FILE that was made, for another row of bytes to make the next one in. */
        Sink giveFile(Sink other) {
            Sink made = file;
            file = other;
            return made;
        }

        /** The pages of a column of a group of rows; false if there can't be such a FILE. */
        boolean putChunk(int column, int rows, int page) {
            int type = schema.type[schema.fieldOf[column]];
            int from = file.count;
            int pages = 0;
            int all = 0;
            int allValues = 0;
            long chunkLeast = 0;
            long chunkGreatest = 0;
            int left = rows;
            for (int guard = 0; guard < rows && left > 0; guard++) {
                int taken = fillPage(column, left, page);
                if (taken == 0) {
                    return false;
                }
                left -= taken;
                pages++;
                putPage(column, chooseCoding(type));
                if (file.over) {
                    return false;
                }
                if (values > 0 && (allValues == 0 || compare(type, least, chunkLeast) < 0)) {
                    chunkLeast = least;
                }
                if (values > 0 && (allValues == 0 || compare(type, greatest, chunkGreatest) > 0)) {
                    chunkGreatest = greatest;
                }
                all += entries;
                allValues += values;
            }
            footer.putVarint(file.count - from);
            footer.putVarint(pages);
            footer.putVarint(all);
            footer.putVarint(all - allValues);
            if (allValues > 0) {
                footer.putTold(type, records.texts, chunkLeast);
                footer.putTold(type, records.texts, chunkGreatest);
            }
            return !footer.over;
        }

        private int compare(int type, long a, long b) {
            return compareValues(type, records.texts, a, records.texts, b);
        }

        /** How many records came into the page: none if the first one has too many entries. */
        private int fillPage(int column, int left, int page) {
            int field = schema.fieldOf[column];
            boolean texts = schema.type[field] == TEXT;
            entries = 0;
            values = 0;
            int bytes = 0;
            int taken = 0;
            while (taken < left) {
                int size = 0;
                int more = 0;
                int past = cursor[column];
                while (past != NONE && size <= PAGE_ENTRIES && (size == 0 || records.rep[past] != 0)) {
                    more += texts ? sizeOf(records.val[past]) : 0;
                    past = records.next[past];
                    size++;
                }
                boolean full = entries + size > page || bytes + more > PAGE_TEXTS;
                if (size == 0 || size > PAGE_ENTRIES || taken > 0 && full) {
                    return taken;
                }
                takeEntries(column, size, schema.def[field]);
                bytes += more;
                taken++;
            }
            return taken;
        }

        private void takeEntries(int column, int size, int most) {
            int e = cursor[column];
            for (int k = 0; k < size && e != NONE && entries < PAGE_ENTRIES; k++) {
                reps[entries] = records.rep[e];
                defs[entries] = records.def[e];
                entries++;
                if (records.def[e] == most) {
                    vals[values] = records.val[e];
                    values++;
                }
                e = records.next[e];
            }
            cursor[column] = e;
        }

        private void putPage(int column, int coding) {
            int field = schema.fieldOf[column];
            int type = schema.type[field];
            body.forget();
            putLevels(reps, schema.rep[field]);
            putLevels(defs, schema.def[field]);
            body.putAll(best.bytes, 0, best.count);
            file.putVarint(entries);
            file.putVarint(entries - values);
            file.put(coding);
            if (values > 0) {
                findBounds(type);
                file.putTold(type, records.texts, least);
                file.putTold(type, records.texts, greatest);
            }
            file.putVarint(body.count);
            file.putFixed(checkOf(body.bytes, 0, body.count), 4);
            file.putAll(body.bytes, 0, body.count);
        }

        private void putLevels(int[] levels, int most) {
            if (most == 0) {
                return;
            }
            int at = body.count;
            body.putRuns(levels, entries, widthOf(most));
            body.tellSizeFrom(at);
        }

        private void findBounds(int type) {
            least = vals[0];
            greatest = vals[0];
            for (int k = 1; k < values; k++) {
                if (compare(type, vals[k], least) < 0) {
                    least = vals[k];
                }
                if (compare(type, vals[k], greatest) > 0) {
                    greatest = vals[k];
                }
            }
        }

        /** The best bytes become those of the coding with the fewest. */
        private int chooseCoding(int type) {
            int last = type == BOOL ? 1 : type == TEXT ? 3 : 2;
            int chosen = 0;
            for (int coding = 0; coding <= last; coding++) {
                trial.forget();
                if (coding == 0) {
                    putPlain(type, vals, values);
                } else if (type == BOOL) {
                    putBoolRuns();
                } else if (coding == last) {
                    putDictionary(type);
                } else if (type == TEXT) {
                    putTexts(coding == 2);
                } else {
                    trial.putCode(vals, values);
                }
                if (coding == 0 || trial.count < best.count) {
                    Sink before = best;
                    best = trial;
                    trial = before;
                    chosen = coding;
                }
            }
            return chosen;
        }

        private void putBoolRuns() {
            for (int k = 0; k < values; k++) {
                numbers[k] = (int) vals[k];
            }
            trial.putRuns(numbers, values, 1);
        }

        private void putPlain(int type, long[] row, int size) {
            if (type == BOOL) {
                for (int from = 0; from < size; from += 8) {
                    int eight = 0;
                    for (int k = from; k < from + 8 && k < size; k++) {
                        eight |= (int) row[k] << k - from;
                    }
                    trial.put(eight);
                }
                return;
            }
            for (int k = 0; k < size; k++) {
                if (type == TEXT) {
                    trial.putText(records.texts, row[k]);
                } else {
                    trial.putFixed(row[k], type == INT ? 4 : 8);
                }
            }
        }

        /** Lengths and bytes; or what is in common with the one before, how many more, and these. */
        private void putTexts(boolean inParts) {
            byte[] texts = records.texts;
            for (int k = 0; k < values && inParts; k++) {
                sizes[k] = k == 0 ? 0 : inCommon(texts, vals[k - 1], vals[k]);
            }
            if (inParts) {
                trial.putCode(sizes, values);
                trial.tellSizeFrom(0);
            }
            for (int k = 0; k < values; k++) {
                sizes[k] = sizeOf(vals[k]) - (inParts ? sizes[k] : 0);
            }
            int at = trial.count;
            trial.putCode(sizes, values);
            trial.tellSizeFrom(at);
            for (int k = 0; k < values; k++) {
                int more = (int) sizes[k];
                trial.putAll(texts, placeOf(vals[k]) + sizeOf(vals[k]) - more, more);
            }
        }

        private void putDictionary(int type) {
            int size = 0;
            for (int k = 0; k < values; k++) {
                int slot = slotOf(type, vals[k]);
                if (slots[slot] == 0) {
                    dictionary[size] = vals[k];
                    usedSlots[size] = slot;
                    size++;
                    slots[slot] = size;
                }
                numbers[k] = slots[slot] - 1;
            }
            for (int k = 0; k < size; k++) {
                slots[usedSlots[k]] = 0;
            }
            int width = size == 0 ? 0 : widthOf(size - 1);
            trial.putVarint(size);
            putPlain(type, dictionary, size);
            trial.put(width);
            trial.putRuns(numbers, values, width);
        }

        /** Where a value's number in the dictionary is kept; there are twice as many slots as values. */
        private int slotOf(int type, long value) {
            byte[] texts = records.texts;
            int slot = hashOf(type, texts, value) & 2047;
            for (int guard = 0; guard < 2048 && slots[slot] != 0; guard++) {
                if (compareValues(type, texts, dictionary[slots[slot] - 1], texts, value) == 0) {
                    return slot;
                }
                slot = slot + 1 & 2047;
            }
            return slot;
        }
    }

    /** Bytes that are read from a place on up to another one; the first fault stays. */
    private static final class Source {
        private final byte[] bytes;
        int pos;
        int stop;
        int fault;
        private final int[] widths = new int[4];

        Source(byte[] source) {
            bytes = source;
        }

        void begin(int from, int to) {
            pos = from;
            stop = Math.min(to, bytes.length);
            fault = 0;
        }

        void check(boolean good, int otherwise) {
            if (fault == 0 && !good) {
                fault = otherwise;
            }
        }

        boolean has(long size) {
            if (fault == 0 && (size < 0 || size > stop - pos)) {
                fault = CUT;
            }
            return fault == 0;
        }

        /** What follows ends behind so many bytes: the end before, to be set again. */
        int narrow(long size) {
            int before = stop;
            if (has(size)) {
                stop = pos + (int) size;
            }
            return before;
        }

        void checkEnd() {
            check(pos == stop, MORE);
        }

        int readByte() {
            if (fault == 0 && pos >= stop) {
                fault = CUT;
            }
            if (fault != 0) {
                return 0;
            }
            pos++;
            return bytes[pos - 1] & 255;
        }

        long readVarint() {
            long number = 0;
            for (int k = 0; k < 10 && fault == 0; k++) {
                if (pos >= stop) {
                    fault = CUT;
                    return 0;
                }
                int b = bytes[pos] & 255;
                pos++;
                if (k == 9 && b > 1 || k > 0 && b == 0) {
                    fault = BAD_VARINT;
                    return 0;
                }
                number |= (long) (b & 127) << 7 * k;
                if (b < 128) {
                    return number;
                }
            }
            return 0;
        }

        long readFixed(int size) {
            if (fault == 0 && size > stop - pos) {
                fault = CUT;
            }
            if (fault != 0) {
                return 0;
            }
            long number = 0;
            for (int k = 0; k < size; k++) {
                number |= (bytes[pos + k] & 255L) << 8 * k;
            }
            pos += size;
            return number;
        }

        /** A text of which the length is known. */
        long readLetters(long size) {
            check(size >= 0 && size <= MOST_TEXT, RANGE);
            if (!has(size)) {
                return 0;
            }
            long reference = reference(pos, (int) size);
            pos += (int) size;
            return reference;
        }

        /** A value as a LEAST or GREATEST one. */
        long readTold(int type) {
            if (type == TEXT) {
                return readLetters(readVarint());
            }
            if (type == BOOL) {
                int bool = readByte();
                check(bool <= 1, RANGE);
                return bool;
            }
            long number = unzigzag(readVarint());
            check(type == LONG || number == (int) number, RANGE);
            return number;
        }

        /** So many bits, the lowest first, from a bit on, counted from here; the bytes are there. */
        private long bitsAt(int from, int width) {
            long number = 0;
            int done = 0;
            for (int k = 0; k < 10 && done < width; k++) {
                int bit = from + done & 7;
                int part = Math.min(8 - bit, width - done);
                int eight = bytes[pos + (from + done >> 3)] & 255;
                number |= (long) (eight >> bit & (1 << part) - 1) << done;
                done += part;
            }
            return number;
        }

        void readRuns(long[] into, int size, int width) {
            int at = 0;
            for (int guard = 0; guard < size && at < size && fault == 0; guard++) {
                long head = readVarint();
                long count = head >>> 1;
                check(count > 0, EMPTY);
                if ((head & 1) == 0) {
                    check(count <= size - at, MANY);
                    at = readSame(into, at, count, width);
                } else {
                    check(count - 1 <= (size - at - 1) / 8, MANY);
                    at = readGroups(into, at, count, size, width);
                }
            }
        }

        private int readSame(long[] into, int from, long count, int width) {
            long number = readFixed((width + 7) / 8);
            check(number >>> width == 0, BITS);
            if (fault != 0) {
                return from;
            }
            int to = from + (int) count;
            for (int k = from; k < to; k++) {
                into[k] = number;
            }
            return to;
        }

        private int readGroups(long[] into, int from, long groups, int size, int width) {
            if (fault != 0 || !has(groups * width)) {
                return from;
            }
            int count = (int) groups * 8;
            for (int k = 0; k < count; k++) {
                long number = bitsAt(k * width, width);
                if (from + k < size) {
                    into[from + k] = number;
                } else {
                    check(number == 0, BITS);
                }
            }
            pos += (int) groups * width;
            return Math.min(from + count, size);
        }

        /** Reads a CODE of as many numbers as are due, perhaps with how many bytes it has in front. */
        void readCode(long[] into, int due, boolean told) {
            int before = stop;
            if (told) {
                before = narrow(readVarint());
            }
            long size = readVarint();
            check(within(size, Math.min(CODE_NUMBERS, into.length)), MANY);
            if (fault == 0 && size > 0) {
                into[0] = unzigzag(readVarint());
            }
            for (int from = 1; fault == 0 && from < size; from += 64) {
                readBlock(into, from, (int) Math.min(from + 64, size));
            }
            // A CODE without its size in front ends with the page: bytes behind it are found before what it tells, too.
            checkEnd();
            stop = before;
            check(size == due, MANY);
        }

        private void readBlock(long[] into, int from, int to) {
            long least = unzigzag(readVarint());
            for (int part = 0; part < 4; part++) {
                int width = readByte();
                check(width <= 64 && (width == 0 || from + 16 * part < to), BITS);
                widths[part] = width;
            }
            for (int part = 0; part < 4; part++) {
                int width = widths[part];
                int first = from + 16 * part;
                if (!has(2 * width)) {
                    return;
                }
                for (int k = 0; k < 16; k++) {
                    long rest = bitsAt(k * width, width);
                    if (first + k < to) {
                        into[first + k] = into[first + k - 1] + least + rest;
                    } else {
                        check(rest == 0, BITS);
                    }
                }
                pos += 2 * width;
            }
        }
    }

    /**
     * What is open. Its pool begins with the bytes of the file; behind them are texts that stand
     * nowhere in it as they are. TELLERS are chunks and pages, by what is told of them: each chunk,
     * and then its pages.
     */
    private static final class Vault {
        boolean ready;
        int rows;
        int groups;
        int pages;
        int entries;
        final Schema schema = new Schema();
        final byte[] pool = new byte[MOST_BYTES + MOST_TEXTS + PAGE_TEXTS + MOST_TEXT];
        final byte[] rep = new byte[MOST_ENTRIES + PAGE_ENTRIES + 1];
        final byte[] def = new byte[MOST_ENTRIES + PAGE_ENTRIES + 1];
        final long[] val = new long[MOST_ENTRIES + PAGE_ENTRIES + 1];
        /** The first entry of a row in a column: each has one, so there are no more than entries. */
        final int[] start = new int[MOST_ENTRIES];
        final int[] groupRow = new int[MOST_GROUPS + 1];
        final int[] chunkTeller = new int[MOST_TELLERS];
        final int[] tellerFirst = new int[MOST_TELLERS];
        final int[] tellerEntries = new int[MOST_TELLERS];
        final int[] tellerNulls = new int[MOST_TELLERS];
        final long[] tellerLeast = new long[MOST_TELLERS];
        final long[] tellerGreatest = new long[MOST_TELLERS];
        /** Where the values of a dictionary begin, times 128, and how many there are; or NONE. */
        final int[] tellerDictionary = new int[MOST_TELLERS];
        final long[] dictionary = new long[MOST_ENTRIES + PAGE_ENTRIES];

        int entryOf(int row, int column) {
            int at = row * schema.columns + column;
            return at < 0 || at >= start.length ? entries : start[at];
        }

        boolean hasValue(int entry, int column) {
            return def[entry] == schema.def[schema.fieldOf[column]];
        }

        int compare(int type, long a, long b) {
            return compareValues(type, pool, a, pool, b);
        }
    }

    /** Looks at a FILE, and fills the vault. */
    private static final class Opener {
        private final Vault vault;
        private final Source footer;
        private final Source source;
        private int opens;
        final int[] where = {NONE, NONE, NONE};
        private int chunksAt;
        /** What the footer tells of a chunk. */
        private final long[] told = new long[6];
        private final long[] numbers = new long[CODE_NUMBERS];
        private final long[] vals = new long[CODE_NUMBERS];
        private int values;
        private int tellers;
        private int chunkEnd;
        private int chunkRows;
        private int dictionaryEnd;
        private int poolEnd;
        private int pageTexts;
        private int allTexts;

        Opener(Vault itsVault) {
            vault = itsVault;
            footer = new Source(itsVault.pool);
            source = new Source(itsVault.pool);
        }

        private void lookAt(int group, int column, int page) {
            where[0] = group;
            where[1] = column;
            where[2] = page;
        }

        int lookAtFrame(byte[] file, int size) {
            lookAt(NONE, NONE, NONE);
            if (opens >= MOST_OPENS) {
                return WORN;
            }
            opens++;
            if (size < 16 || size > MOST_BYTES) {
                return FRAME;
            }
            System.arraycopy(file, 0, vault.pool, 0, size);
            for (int k = 0; k < 4; k++) {
                if (file[k] != MAGIC[k] || file[size - 4 + k] != MAGIC[k]) {
                    return FRAME;
                }
            }
            footer.begin(size - 12, size - 4);
            long footerSize = footer.readFixed(4);
            int check = (int) footer.readFixed(4);
            if (footerSize > size - 16) {
                return FRAME;
            }
            int from = size - 12 - (int) footerSize;
            footer.begin(from, size - 12);
            source.begin(4, from);
            return check == checkOf(vault.pool, from, size - 12) ? 0 : FOOTER_CHECK;
        }

        int lookAtFooter() {
            Schema schema = vault.schema;
            readSchema(schema);
            long rows = footer.readVarint();
            footer.check(within(rows, MOST_ROWS), ROWS);
            long groups = footer.readVarint();
            footer.check(within(groups, MOST_GROUPS), ROWS);
            chunksAt = footer.pos;
            long bytes = 0;
            long allRows = 0;
            for (int g = 0; g < groups && footer.fault == 0; g++) {
                long rowsHere = footer.readVarint();
                footer.check(rowsHere != 0 && within(rowsHere, MOST_ROWS), ROWS);
                allRows += rowsHere;
                for (int c = 0; c < schema.columns && footer.fault == 0; c++) {
                    readChunkTold(schema.type[schema.fieldOf[c]]);
                    bytes += within(told[TOLD_BYTES], MOST_BYTES) ? told[TOLD_BYTES] : MOST_BYTES;
                }
            }
            footer.check(allRows == rows, ROWS);
            footer.checkEnd();
            footer.check(bytes == source.stop - source.pos, PLACE);
            if (footer.fault == 0) {
                vault.rows = (int) rows;
                vault.groups = (int) groups;
            }
            return footer.fault;
        }

        private void readSchema(Schema schema) {
            schema.forget();
            long fields = footer.readVarint();
            footer.check(fields != 0 && within(fields, MOST_FIELDS), SCHEMA);
            for (int f = 0; f < fields && footer.fault == 0; f++) {
                readField(schema, f);
            }
            for (int f = 0; f < schema.fields; f++) {
                footer.check(!schema.isEmptyGroup(f), SCHEMA);
            }
        }

        private void readField(Schema schema, int f) {
            int form = footer.readByte();
            long group = footer.readVarint();
            long size = footer.readVarint();
            if (!footer.has(size)) {
                return;
            }
            int at = footer.pos;
            footer.pos += (int) size;
            boolean good = form <= 14 && isGroupAround(schema, group, f) && isName(at, (int) size);
            footer.check(good && schema.add(form % 3, form / 3, (int) group - 1, vault.pool, at, (int) size),
                    SCHEMA);
        }

        private static boolean isGroupAround(Schema schema, long told, int field) {
            if (told == 0) {
                return true;
            }
            int around = field - 1;
            if (around >= 0 && schema.type[around] != GROUP) {
                around = schema.parent[around];
            }
            for (int guard = 0; guard <= MOST_DEPTH && around >= 0; guard++) {
                if (told - 1 == around) {
                    return true;
                }
                around = schema.parent[around];
            }
            return false;
        }

        private boolean isName(int at, int size) {
            if (size < 1 || size > MOST_NAME || !isLetter(vault.pool[at])) {
                return false;
            }
            for (int k = 1; k < size; k++) {
                if (!isOfWord(vault.pool[at + k])) {
                    return false;
                }
            }
            return true;
        }

        private void readChunkTold(int type) {
            told[TOLD_BYTES] = footer.readVarint();
            told[TOLD_PAGES] = footer.readVarint();
            footer.check(told[TOLD_PAGES] != 0, PAGES);
            told[TOLD_ENTRIES] = footer.readVarint();
            footer.check(within(told[TOLD_ENTRIES], MOST_ENTRIES), ROWS);
            told[TOLD_NULLS] = footer.readVarint();
            footer.check(within(told[TOLD_NULLS], told[TOLD_ENTRIES]), RANGE);
            if (told[TOLD_NULLS] != told[TOLD_ENTRIES]) {
                told[TOLD_LEAST] = footer.readTold(type);
                told[TOLD_GREATEST] = footer.readTold(type);
            }
        }

        int lookAtChunks() {
            vault.entries = 0;
            vault.pages = 0;
            vault.groupRow[0] = 0;
            tellers = 0;
            dictionaryEnd = 0;
            poolEnd = MOST_BYTES;
            allTexts = 0;
            footer.pos = chunksAt;
            for (int g = 0; g < vault.groups; g++) {
                vault.groupRow[g + 1] = vault.groupRow[g] + (int) footer.readVarint();
                for (int c = 0; c < vault.schema.columns; c++) {
                    readChunkTold(vault.schema.type[vault.schema.fieldOf[c]]);
                    int chunk = beginChunk(g, c);
                    // Each page has a byte at least, so that one too many is missed before this bound.
                    long most = within(told[TOLD_PAGES], MOST_BYTES) ? told[TOLD_PAGES] : MOST_BYTES + 1;
                    for (int p = 0; p < most && source.fault == 0; p++) {
                        lookAt(g, c, p);
                        source.stop = chunkEnd;
                        lookAtPage(c, chunk, newTeller());
                    }
                    if (source.fault == 0) {
                        lookAt(g, c, NONE);
                        endChunk(g, c, chunk);
                    }
                    if (source.fault != 0) {
                        return source.fault;
                    }
                }
            }
            // Behind the last entry there is no further value of any field.
            vault.rep[vault.entries] = 0;
            lookAt(NONE, NONE, NONE);
            return 0;
        }

        private int newTeller() {
            int teller = tellers;
            source.check(teller < MOST_TELLERS - 1, ROOM);
            if (source.fault == 0) {
                tellers++;
            }
            vault.tellerFirst[teller] = vault.entries;
            vault.tellerEntries[teller] = 0;
            vault.tellerNulls[teller] = 0;
            vault.tellerDictionary[teller] = NONE;
            return teller;
        }

        private int beginChunk(int group, int column) {
            int chunk = newTeller();
            int at = group * vault.schema.columns + column;
            source.check(at < MOST_TELLERS, ROOM);
            if (source.fault == 0) {
                vault.chunkTeller[at] = chunk;
            }
            chunkEnd = source.pos + (int) told[TOLD_BYTES];
            chunkRows = 0;
            return chunk;
        }

        private void lookAtPage(int column, int chunk, int page) {
            int field = vault.schema.fieldOf[column];
            int type = vault.schema.type[field];
            int coding = readPageHead(type, page);
            if (source.fault != 0) {
                return;
            }
            int entries = vault.tellerEntries[page];
            readLevels(vault.rep, entries, vault.schema.rep[field]);
            readLevels(vault.def, entries, vault.schema.def[field]);
            int nulls = countNulls(entries, vault.schema.def[field]);
            source.check(nulls == vault.tellerNulls[page], NO_VALUES);
            if (source.fault != 0) {
                return;
            }
            values = entries - nulls;
            pageTexts = 0;
            readValues(type, coding, page);
            source.checkEnd();
            checkBounds(type, page);
            source.check(vault.entries + entries <= MOST_ENTRIES && allTexts + pageTexts <= MOST_TEXTS, ROOM);
            source.check(vault.rep[vault.entries] == 0, BEGIN);
            checkOrder(field, entries);
            if (source.fault == 0) {
                keepPage(column, chunk, page);
            }
        }

        /** Reads what comes before the BODY: the coding. */
        private int readPageHead(int type, int page) {
            long entries = source.readVarint();
            source.check(entries != 0, EMPTY);
            source.check(within(entries, PAGE_ENTRIES), MANY);
            long nulls = source.readVarint();
            source.check(within(nulls, entries), RANGE);
            int coding = source.readByte();
            source.check(coding <= (type == BOOL ? 1 : type == TEXT ? 3 : 2), RANGE);
            if (source.fault == 0 && nulls < entries) {
                vault.tellerLeast[page] = source.readTold(type);
                vault.tellerGreatest[page] = source.readTold(type);
            }
            long size = source.readVarint();
            int check = (int) source.readFixed(4);
            source.narrow(size);
            if (source.fault == 0) {
                source.check(check == checkOf(vault.pool, source.pos, source.stop), CHECK);
                vault.tellerEntries[page] = (int) entries;
                vault.tellerNulls[page] = (int) nulls;
            }
            return coding;
        }

        private void readLevels(byte[] into, int entries, int most) {
            if (most > 0) {
                int before = source.narrow(source.readVarint());
                source.readRuns(numbers, entries, widthOf(most));
                source.checkEnd();
                source.stop = before;
            }
            for (int k = 0; k < entries && source.fault == 0; k++) {
                long level = most > 0 ? numbers[k] : 0;
                source.check(level <= most, LEVELS);
                into[vault.entries + k] = (byte) level;
            }
        }

        private int countNulls(int entries, int most) {
            int nulls = 0;
            for (int k = 0; k < entries; k++) {
                nulls += vault.def[vault.entries + k] < most ? 1 : 0;
            }
            return nulls;
        }

        private void readValues(int type, int coding, int page) {
            if (type == BOOL) {
                readBools(coding);
            } else if (coding == (type == TEXT ? 3 : 2)) {
                readDictionary(type, page);
            } else if (coding == 0) {
                readPlain(type, vals, 0, values);
                countTexts(type);
            } else if (type != TEXT) {
                source.readCode(vals, values, false);
                for (int k = 0; k < values && type == INT; k++) {
                    source.check(vals[k] == (int) vals[k], RANGE);
                }
            } else if (coding == 1) {
                readTexts();
            } else {
                readTextsInParts();
            }
        }

        private void readBools(int coding) {
            if (coding == 1) {
                source.readRuns(vals, values, 1);
                return;
            }
            int eight = 0;
            for (int k = 0; k < values; k++) {
                if ((k & 7) == 0) {
                    eight = source.readByte();
                }
                vals[k] = eight & 1;
                eight >>= 1;
            }
            source.check(eight == 0, BITS);
        }

        /** The bytes of texts are counted with each of them. */
        private void readPlain(int type, long[] into, int at, int size) {
            int texts = 0;
            for (int k = at; k < at + size && source.fault == 0; k++) {
                if (type == TEXT) {
                    into[k] = source.readLetters(source.readVarint());
                    texts += sizeOf(into[k]);
                    source.check(texts <= PAGE_TEXTS, RANGE);
                } else if (type == INT) {
                    into[k] = (int) source.readFixed(4);
                } else {
                    into[k] = source.readFixed(8);
                }
            }
        }

        private void countTexts(int type) {
            for (int k = 0; k < values && type == TEXT && source.fault == 0; k++) {
                pageTexts += sizeOf(vals[k]);
            }
        }

        private void readTexts() {
            source.readCode(vals, values, true);
            for (int k = 0; k < values; k++) {
                source.check(within(vals[k], MOST_TEXT), RANGE);
            }
            for (int k = 0; k < values && source.fault == 0; k++) {
                vals[k] = source.readLetters(vals[k]);
                pageTexts += sizeOf(vals[k]);
                source.check(pageTexts <= PAGE_TEXTS, RANGE);
            }
        }

        private void readTextsInParts() {
            source.readCode(vals, values, true);
            source.readCode(numbers, values, true);
            long before = 0;
            for (int k = 0; k < values && source.fault == 0; k++) {
                long common = vals[k];
                long more = numbers[k];
                source.check(within(common, sizeOf(before)) && within(more, MOST_TEXT - common), RANGE);
                long rest = source.readLetters(more);
                if (source.fault != 0) {
                    return;
                }
                int size = (int) (common + more);
                System.arraycopy(vault.pool, placeOf(before), vault.pool, poolEnd, (int) common);
                System.arraycopy(vault.pool, placeOf(rest), vault.pool, poolEnd + (int) common, (int) more);
                before = reference(poolEnd, size);
                vals[k] = before;
                poolEnd += size;
                pageTexts += size;
                source.check(pageTexts <= PAGE_TEXTS, RANGE);
            }
        }

        private void readDictionary(int type, int page) {
            long many = source.readVarint();
            source.check(within(many, values), MANY);
            if (source.fault != 0) {
                return;
            }
            int size = (int) many;
            readPlain(type, vault.dictionary, dictionaryEnd, size);
            int width = source.readByte();
            source.check(width <= 32, BITS);
            source.readRuns(numbers, values, width);
            source.checkEnd();
            for (int k = 0; k < values && source.fault == 0; k++) {
                source.check(numbers[k] < size, RANGE);
                if (source.fault == 0) {
                    vals[k] = vault.dictionary[dictionaryEnd + (int) numbers[k]];
                    pageTexts += type == TEXT ? sizeOf(vals[k]) : 0;
                    source.check(pageTexts <= PAGE_TEXTS, RANGE);
                }
            }
            if (size <= TOLD_DICTIONARY) {
                vault.tellerDictionary[page] = dictionaryEnd * 128 + size;
                dictionaryEnd += size;
            }
        }

        private void checkBounds(int type, int page) {
            if (values == 0 || source.fault != 0) {
                return;
            }
            long least = vals[0];
            long greatest = vals[0];
            for (int k = 1; k < values; k++) {
                if (vault.compare(type, vals[k], least) < 0) {
                    least = vals[k];
                }
                if (vault.compare(type, vals[k], greatest) > 0) {
                    greatest = vals[k];
                }
            }
            source.check(vault.compare(type, least, vault.tellerLeast[page]) == 0, LEAST);
            source.check(vault.compare(type, greatest, vault.tellerGreatest[page]) == 0, GREATEST);
        }

        private void checkOrder(int field, int entries) {
            for (int k = 1; k < entries && source.fault == 0; k++) {
                int level = vault.rep[vault.entries + k];
                if (level > 0) {
                    int due = defOfRepeated(field, level);
                    int e = vault.entries + k;
                    source.check(vault.def[e] >= due && vault.def[e - 1] >= due, ORDER);
                }
            }
        }

        /** D of the field, itself or around it, that is the first one with a certain R. */
        private int defOfRepeated(int field, int level) {
            Schema schema = vault.schema;
            int f = field;
            for (int guard = 0; guard <= MOST_DEPTH && f != NONE; guard++) {
                if (schema.mode[f] == REPEATED && schema.rep[f] == level) {
                    return schema.def[f];
                }
                f = schema.parent[f];
            }
            return 0;
        }

        private void keepPage(int column, int chunk, int page) {
            int type = vault.schema.type[vault.schema.fieldOf[column]];
            int entries = vault.tellerEntries[page];
            int group = where[0];
            int rowsHere = vault.groupRow[group + 1] - vault.groupRow[group];
            int taken = 0;
            for (int e = vault.entries; e < vault.entries + entries; e++) {
                boolean has = vault.hasValue(e, column);
                vault.val[e] = has ? vals[taken] : 0;
                taken += has ? 1 : 0;
                if (vault.rep[e] == 0) {
                    int at = (vault.groupRow[group] + chunkRows) * vault.schema.columns + column;
                    if (chunkRows < rowsHere && at < vault.start.length) {
                        vault.start[at] = e;
                    }
                    chunkRows++;
                }
            }
            int before = vault.tellerEntries[chunk] - vault.tellerNulls[chunk];
            if (values > 0) {
                long least = vault.tellerLeast[page];
                long greatest = vault.tellerGreatest[page];
                if (before == 0 || vault.compare(type, least, vault.tellerLeast[chunk]) < 0) {
                    vault.tellerLeast[chunk] = least;
                }
                if (before == 0 || vault.compare(type, greatest, vault.tellerGreatest[chunk]) > 0) {
                    vault.tellerGreatest[chunk] = greatest;
                }
            }
            vault.tellerEntries[chunk] += entries;
            vault.tellerNulls[chunk] += vault.tellerNulls[page];
            vault.entries += entries;
            vault.pages++;
            allTexts += pageTexts;
        }

        private void endChunk(int group, int column, int chunk) {
            int type = vault.schema.type[vault.schema.fieldOf[column]];
            int entries = vault.tellerEntries[chunk];
            int rowsHere = vault.groupRow[group + 1] - vault.groupRow[group];
            source.check(source.pos == chunkEnd, MORE);
            source.check(entries == told[TOLD_ENTRIES] && chunkRows == rowsHere, ROWS);
            source.check(vault.tellerNulls[chunk] == told[TOLD_NULLS], NO_VALUES);
            if (source.fault == 0 && told[TOLD_NULLS] < told[TOLD_ENTRIES]) {
                source.check(vault.compare(type, vault.tellerLeast[chunk], told[TOLD_LEAST]) == 0, LEAST);
                source.check(vault.compare(type, vault.tellerGreatest[chunk], told[TOLD_GREATEST]) == 0, GREATEST);
            }
            if (source.fault == 0 && column > 0) {
                int before = vault.chunkTeller[group * vault.schema.columns + column - 1];
                source.check(goTogether(column, before, chunk), APART);
            }
        }

        /** Whether a column and the one before it tell the same of the last group around both. */
        private boolean goTogether(int column, int before, int chunk) {
            Schema schema = vault.schema;
            int around = schema.parent[schema.fieldOf[column]];
            for (int guard = 0; guard <= MOST_DEPTH && around > schema.fieldOf[column - 1]; guard++) {
                around = schema.parent[around];
            }
            if (around == NONE) {
                return true;
            }
            int level = schema.rep[around];
            int most = schema.def[around];
            int stopA = vault.tellerFirst[before] + vault.tellerEntries[before];
            int stopB = vault.tellerFirst[chunk] + vault.tellerEntries[chunk];
            int a = nextUpTo(level, vault.tellerFirst[before], stopA);
            int b = nextUpTo(level, vault.tellerFirst[chunk], stopB);
            for (int guard = 0; guard < MOST_ENTRIES && a < stopA && b < stopB; guard++) {
                if (vault.rep[a] != vault.rep[b]
                        || Math.min(vault.def[a], most) != Math.min(vault.def[b], most)) {
                    return false;
                }
                a = nextUpTo(level, a + 1, stopA);
                b = nextUpTo(level, b + 1, stopB);
            }
            return a == stopA && b == stopB;
        }

        private int nextUpTo(int level, int from, int stop) {
            int e = from;
            while (e < stop && vault.rep[e] > level) {
                e++;
            }
            return e;
        }
    }

    /** A QUERY; the steps of its condition come behind what they join or ask. */
    private static final class Query {
        boolean ready;
        int items;
        final int[] itemForm = new int[MOST_ITEMS];
        final int[] itemField = new int[MOST_ITEMS];
        private final int[] itemAt = new int[MOST_ITEMS];
        int bys;
        final int[] by = new int[MOST_BYS];
        boolean collects;
        int steps;
        final int[] stepForm = new int[MOST_STEPS];
        final int[] stepColumn = new int[MOST_STEPS];
        /** A step's first literal, and how many; if none, the other column. */
        final int[] stepOther = new int[MOST_STEPS];
        final int[] stepLiterals = new int[MOST_STEPS];
        private int literals;
        final long[] literal = new long[MOST_LITERALS];
        private int textEnd;
        final byte[] texts = new byte[MOST_QUERY + MOST_TEXT];
        private Scan scan;
        private Schema schema;
        private int pathAt;

        /** Reads a QUERY: the place of what can't stand in it. */
        int readText(Scan itsScan, Schema itsSchema) {
            scan = itsScan;
            schema = itsSchema;
            ready = false;
            items = 0;
            bys = 0;
            collects = false;
            steps = 0;
            literals = 0;
            textEnd = 0;
            scan.needWord("select");
            readItems();
            if (scan.good() && scan.takeWord("where")) {
                readCondition(0);
            }
            if (scan.good() && scan.takeWord("group")) {
                scan.needWord("by");
                readBys();
            }
            if (scan.good() && scan.next() != NONE) {
                scan.refuse(scan.pos);
            }
            if (scan.good() && collects) {
                checkItems();
            }
            return scan.place;
        }

        private void checkItems() {
            for (int k = 0; k < items; k++) {
                if (itemForm[k] == BY_PATH && !isBy(itemField[k])) {
                    scan.refuse(itemAt[k]);
                }
            }
        }

        private boolean isBy(int field) {
            for (int k = 0; k < bys; k++) {
                if (by[k] == field) {
                    return true;
                }
            }
            return false;
        }

        private void readItems() {
            boolean more = scan.good();
            for (int guard = 0; guard <= MOST_ITEMS && more; guard++) {
                scan.next();
                if (items >= MOST_ITEMS) {
                    scan.refuse(scan.pos);
                    return;
                }
                itemAt[items] = scan.pos;
                readItem();
                items++;
                more = scan.good() && scan.takeSign(',');
            }
        }

        private void readItem() {
            int form = readItemForm();
            int field = NONE;
            if (form == BY_PATH) {
                field = readPath();
            } else {
                collects = true;
                if (form == COUNT_OF && scan.next() != '(') {
                    form = COUNT_ALL;
                } else {
                    scan.needSign('(');
                    field = readColumn();
                    if (form == SUM && scan.good() && !isNumber(schema.type[field])) {
                        scan.refuse(pathAt);
                    }
                    scan.needSign(')');
                }
            }
            itemForm[items] = form;
            itemField[items] = field;
        }

        private int readItemForm() {
            if (scan.takeWord("count")) {
                return COUNT_OF;
            }
            if (scan.takeWord("sum")) {
                return SUM;
            }
            if (scan.takeWord("min")) {
                return MIN;
            }
            return scan.takeWord("max") ? MAX : BY_PATH;
        }

        private static boolean isNumber(int type) {
            return type == INT || type == LONG;
        }

        private void readBys() {
            collects = true;
            boolean more = scan.good();
            for (int guard = 0; guard <= MOST_BYS && more; guard++) {
                scan.next();
                if (bys >= MOST_BYS) {
                    scan.refuse(scan.pos);
                    return;
                }
                int field = readColumn();
                if (scan.good() && isBy(field)) {
                    scan.refuse(pathAt);
                }
                by[bys] = field;
                bys++;
                more = scan.good() && scan.takeSign(',');
            }
        }

        /** Reads a PATH: its field, or NONE if it can't stand. */
        private int readPath() {
            if (!scan.good()) {
                return NONE;
            }
            scan.next();
            pathAt = scan.pos;
            int field = NONE;
            boolean more = true;
            for (int guard = 0; guard <= scan.count && more; guard++) {
                if (!isLetter(scan.byteAt(scan.pos))) {
                    scan.refuse(scan.pos);
                    return NONE;
                }
                scan.takeAnyWord();
                if (isOwnWord()) {
                    scan.refuse(scan.wordAt);
                    return NONE;
                }
                boolean lost = guard > 0 && field == NONE;
                field = lost ? NONE : schema.find(field, scan.bytes, scan.wordAt, scan.wordSize);
                more = scan.byteAt(scan.pos) == '.';
                scan.pos += more ? 1 : 0;
            }
            if (field == NONE) {
                scan.refuse(pathAt);
            }
            return field;
        }

        /** Whether the word that was read is one of those that are no names in a query. */
        private boolean isOwnWord() {
            return scan.isWord("select") || scan.isWord("where") || scan.isWord("group") || scan.isWord("by")
                    || scan.isWord("and") || scan.isWord("or") || scan.isWord("not") || scan.isWord("is")
                    || scan.isWord("null") || scan.isWord("in") || scan.isWord("true") || scan.isWord("false")
                    || scan.isWord("count") || scan.isWord("sum") || scan.isWord("min") || scan.isWord("max");
        }

        /** Reads a PATH that must be FLAT and no group. */
        private int readColumn() {
            int field = readPath();
            if (scan.good() && !schema.isFlatColumn(field)) {
                scan.refuse(pathAt);
            }
            return field;
        }

        /** An and is a step as soon as its second test is read, an or as soon as its second part is. */
        private void readCondition(int depth) {
            int orAt = NONE;
            int andAt = NONE;
            boolean more = true;
            for (int guard = 0; guard <= scan.count && more; guard++) {
                readTest(depth);
                if (andAt != NONE) {
                    addStep(AND, andAt, 0, 0, 0);
                }
                more = scan.good() && scan.takeWord("and");
                andAt = more ? scan.wordAt : NONE;
                if (!more && orAt != NONE) {
                    addStep(OR, orAt, 0, 0, 0);
                }
                if (!more && scan.good() && scan.takeWord("or")) {
                    orAt = scan.wordAt;
                    more = true;
                }
            }
        }

        private void readTest(int depth) {
            scan.next();
            int at = scan.pos;
            boolean turned = scan.takeWord("not");
            if (turned || scan.takeSign('(')) {
                if (depth >= MOST_NESTED) {
                    scan.refuse(at);
                } else if (turned) {
                    readTest(depth + 1);
                    addStep(NOT, at, 0, 0, 0);
                } else {
                    readCondition(depth + 1);
                    scan.needSign(')');
                }
                return;
            }
            int field = readColumn();
            if (!scan.good()) {
                return;
            }
            int column = schema.column[field];
            if (scan.takeWord("is")) {
                int form = scan.takeWord("not") ? VALUE_TEST : NULL_TEST;
                scan.needWord("null");
                addStep(form, at, column, 0, 0);
            } else if (scan.takeWord("in")) {
                int first = literals;
                readList(schema.type[field]);
                addStep(LIST_TEST, at, column, first, literals - first);
            } else {
                readComparison(field, at);
            }
        }

        private void addStep(int form, int place, int column, int other, int count) {
            if (!scan.good()) {
                return;
            }
            if (steps >= MOST_STEPS) {
                scan.refuse(place);
                return;
            }
            stepForm[steps] = form;
            stepColumn[steps] = column;
            stepOther[steps] = other;
            stepLiterals[steps] = count;
            steps++;
        }

        private void readList(int type) {
            scan.needSign('(');
            boolean more = scan.good();
            for (int guard = 0; guard <= scan.count && more; guard++) {
                readLiteral(type);
                more = scan.good() && scan.takeSign(',');
            }
            scan.needSign(')');
        }

        private void readComparison(int field, int at) {
            int type = schema.type[field];
            int column = schema.column[field];
            int form = readOperator();
            if (!scan.good()) {
                return;
            }
            if (!isLetter(scan.next()) || atTruth()) {
                readLiteral(type);
                addStep(form, at, column, literals - 1, 1);
                return;
            }
            int other = readColumn();
            if (!scan.good()) {
                return;
            }
            int otherType = schema.type[other];
            if (type != otherType && !(isNumber(type) && isNumber(otherType))) {
                scan.refuse(pathAt);
            }
            addStep(form, at, column, schema.column[other], 0);
        }

        private boolean atTruth() {
            int at = scan.pos;
            boolean truth = scan.takeWord("true") || scan.takeWord("false");
            scan.pos = at;
            return truth;
        }

        private int readOperator() {
            if (scan.takeSign('=')) {
                return IS;
            }
            if (scan.takeSign('<')) {
                if (takeBehind('>')) {
                    return IS_NOT;
                }
                return takeBehind('=') ? NOT_ABOVE : BELOW;
            }
            if (scan.takeSign('>')) {
                return takeBehind('=') ? NOT_BELOW : ABOVE;
            }
            scan.refuse(scan.pos);
            return IS;
        }

        /** The second half of a sign has no blanks before it. */
        private boolean takeBehind(char half) {
            if (scan.byteAt(scan.pos) != half) {
                return false;
            }
            scan.pos++;
            return true;
        }

        private void readLiteral(int type) {
            int c = scan.next();
            int at = scan.pos;
            boolean fits;
            long value = 0;
            if (c == '\'') {
                scan.readQuoted(texts, textEnd);
                value = reference(textEnd, scan.textSize);
                textEnd += scan.textSize;
                fits = type == TEXT;
            } else if (scan.atNumber()) {
                scan.readNumber(true);
                value = scan.number;
                fits = isNumber(type);
            } else {
                value = scan.takeWord("true") ? 1 : 0;
                if (value == 0 && !scan.takeWord("false")) {
                    scan.refuse(at);
                }
                fits = type == BOOL;
            }
            if (!fits || literals >= MOST_LITERALS) {
                scan.refuse(at);
            }
            if (scan.good()) {
                literal[literals] = value;
                literals++;
            }
        }
    }

    /** The ANSWER of a query, and how many groups of rows and stretches were SKIPPED for it. */
    private static final class Answer {
        boolean ready;
        int count;
        int skippedGroups;
        int skippedStretches;
        final boolean[] wanted = new boolean[MOST_FIELDS];
        /** The records' rows; if the query collects, the first row of each group. */
        private final int[] rows = new int[MOST_ROWS];
        private boolean collects;
        private int items;
        final byte[] forms = new byte[MOST_GROUPS * MOST_ITEMS];
        final long[] results = new long[MOST_GROUPS * MOST_ITEMS];
        private final int[] slots = new int[1024];
        private final int[] stack = new int[MOST_STEPS + 1];
        /** The teller that is asked, by columns. */
        private final int[] teller = new int[MOST_COLUMNS];
        private final boolean[] asked = new boolean[MOST_COLUMNS];
        private Vault vault;
        private Query query;

        int rowAt(int k) {
            return !ready || collects || k < 0 || k >= count ? NONE : rows[k];
        }

        int placeOf(int k, int item) {
            boolean there = ready && collects && k >= 0 && k < count && item >= 0 && item < items;
            return there ? k * MOST_ITEMS + item : NONE;
        }

        /** False if there are too many groups. */
        boolean fill(Vault itsVault, Query itsQuery) {
            vault = itsVault;
            query = itsQuery;
            ready = false;
            count = 0;
            items = query.items;
            collects = query.collects;
            Arrays.fill(slots, 0);
            if (collects && query.bys == 0) {
                addGroup(NONE);
            }
            for (int row = 0; row < vault.rows; row++) {
                if (query.steps > 0 && truthsOf(row) != TRUE) {
                    continue;
                }
                if (collects) {
                    int group = groupOf(row);
                    if (group == NONE) {
                        return false;
                    }
                    gather(group, row);
                } else {
                    rows[count] = row;
                    count++;
                }
            }
            markWanted();
            return true;
        }

        private void markWanted() {
            Schema schema = vault.schema;
            for (int f = 0; f < MOST_FIELDS; f++) {
                wanted[f] = false;
            }
            for (int k = 0; k < items && !collects; k++) {
                int field = query.itemField[k];
                for (int f = field; f < schema.past[field]; f++) {
                    wanted[f] = true;
                }
            }
        }

        private void addGroup(int row) {
            int from = count * MOST_ITEMS;
            rows[count] = row;
            count++;
            for (int k = 0; k < items; k++) {
                int form = query.itemForm[k];
                boolean counts = form == COUNT_ALL || form == COUNT_OF;
                forms[from + k] = (byte) (counts ? 2 : 0);
                results[from + k] = 0;
                if (form == BY_PATH && row != NONE) {
                    keepValue(from + k, row, query.itemField[k]);
                }
            }
        }

        private void keepValue(int at, int row, int field) {
            int column = vault.schema.column[field];
            int entry = vault.entryOf(row, column);
            if (vault.hasValue(entry, column)) {
                int type = vault.schema.type[field];
                forms[at] = (byte) (type == BOOL ? 1 : type == TEXT ? 3 : 2);
                results[at] = vault.val[entry];
            }
        }

        /** The group of a row, perhaps a new one; NONE if that is one too many. */
        private int groupOf(int row) {
            if (query.bys == 0) {
                return 0;
            }
            int slot = hashOfRow(row) & 1023;
            for (int guard = 0; guard < 1024 && slots[slot] != 0; guard++) {
                if (sameGroup(rows[slots[slot] - 1], row)) {
                    return slots[slot] - 1;
                }
                slot = slot + 1 & 1023;
            }
            if (count >= MOST_GROUPS) {
                return NONE;
            }
            addGroup(row);
            slots[slot] = count;
            return count - 1;
        }

        private int hashOfRow(int row) {
            int hash = 0;
            for (int k = 0; k < query.bys; k++) {
                int column = vault.schema.column[query.by[k]];
                int entry = vault.entryOf(row, column);
                hash *= 31;
                if (vault.hasValue(entry, column)) {
                    hash += 1 + hashOf(vault.schema.type[query.by[k]], vault.pool, vault.val[entry]);
                }
            }
            return hash ^ hash >>> 10;
        }

        private boolean sameGroup(int first, int second) {
            for (int k = 0; k < query.bys; k++) {
                int column = vault.schema.column[query.by[k]];
                int type = vault.schema.type[query.by[k]];
                int a = vault.entryOf(first, column);
                int b = vault.entryOf(second, column);
                boolean has = vault.hasValue(a, column);
                if (has != vault.hasValue(b, column)
                        || has && vault.compare(type, vault.val[a], vault.val[b]) != 0) {
                    return false;
                }
            }
            return true;
        }

        private void gather(int group, int row) {
            for (int k = 0; k < items; k++) {
                int at = group * MOST_ITEMS + k;
                if (query.itemForm[k] == COUNT_ALL) {
                    results[at]++;
                } else if (query.itemForm[k] != BY_PATH) {
                    gatherValue(at, query.itemForm[k], row, query.itemField[k]);
                }
            }
        }

        private void gatherValue(int at, int form, int row, int field) {
            int column = vault.schema.column[field];
            int entry = vault.entryOf(row, column);
            if (!vault.hasValue(entry, column)) {
                return;
            }
            if (form == COUNT_OF) {
                results[at]++;
            } else if (forms[at] == 0) {
                keepValue(at, row, field);
            } else if (form == SUM) {
                results[at] += vault.val[entry];
            } else {
                int order = vault.compare(vault.schema.type[field], vault.val[entry], results[at]);
                if (form == MIN ? order < 0 : order > 0) {
                    results[at] = vault.val[entry];
                }
            }
        }

        /** The truth of the condition in a row; of no row: those that CAN be, by the tellers. */
        private int truthsOf(int row) {
            int top = 0;
            for (int s = 0; s < query.steps; s++) {
                int form = query.stepForm[s];
                if (form < NOT) {
                    stack[top] = row == NONE ? truthsThatCanBe(s) : truthOfTest(s, row);
                    top++;
                } else if (form == NOT && top > 0) {
                    stack[top - 1] = turned(stack[top - 1]);
                } else if (top > 1) {
                    top--;
                    stack[top - 1] = joined(form, stack[top - 1], stack[top]);
                }
            }
            return top > 0 ? stack[0] : UNKNOWN;
        }

        /** not of each truth of a set. */
        private static int turned(int truths) {
            return truths & UNKNOWN | (truths & FALSE) << 1 | (truths & TRUE) >> 1;
        }

        /** and, or of two sets of truths; a truth is a set of its own. */
        private static int joined(int form, int a, int b) {
            int strong = form == AND ? FALSE : TRUE;
            int weak = form == AND ? TRUE : FALSE;
            int truths = (a | b) & strong | a & b & weak;
            boolean unknown = (a & UNKNOWN) != 0 && (b & (UNKNOWN | weak)) != 0
                    || (b & UNKNOWN) != 0 && (a & (UNKNOWN | weak)) != 0;
            return truths | (unknown ? UNKNOWN : 0);
        }

        private int truthOfTest(int s, int row) {
            int column = query.stepColumn[s];
            int form = query.stepForm[s];
            int entry = vault.entryOf(row, column);
            boolean has = vault.hasValue(entry, column);
            if (form == NULL_TEST || form == VALUE_TEST) {
                return has == (form == VALUE_TEST) ? TRUE : FALSE;
            }
            if (!has) {
                return UNKNOWN;
            }
            int type = typeOf(column);
            if (query.stepLiterals[s] == 0) {
                int other = query.stepOther[s];
                int second = vault.entryOf(row, other);
                if (!vault.hasValue(second, other)) {
                    return UNKNOWN;
                }
                return holds(form, vault.compare(type, vault.val[entry], vault.val[second])) ? TRUE : FALSE;
            }
            if (form == LIST_TEST) {
                return isListed(s, type, vault.val[entry]) ? TRUE : FALSE;
            }
            long literal = query.literal[query.stepOther[s]];
            int order = compareValues(type, vault.pool, vault.val[entry], query.texts, literal);
            return holds(form, order) ? TRUE : FALSE;
        }

        private int typeOf(int column) {
            return vault.schema.type[vault.schema.fieldOf[column]];
        }

        private boolean isListed(int s, int type, long value) {
            for (int k = 0; k < query.stepLiterals[s]; k++) {
                long literal = query.literal[query.stepOther[s] + k];
                if (compareValues(type, vault.pool, value, query.texts, literal) == 0) {
                    return true;
                }
            }
            return false;
        }

        private static boolean holds(int operator, int order) {
            switch (operator) {
                case IS:
                    return order == 0;
                case IS_NOT:
                    return order != 0;
                case BELOW:
                    return order < 0;
                case NOT_BELOW:
                    return order >= 0;
                case ABOVE:
                    return order > 0;
                default:
                    return order <= 0;
            }
        }

        void countSkipped() {
            skippedGroups = 0;
            skippedStretches = 0;
            markAsked();
            for (int g = 0; g < vault.groups && query.steps > 0; g++) {
                for (int c = 0; c < vault.schema.columns; c++) {
                    teller[c] = vault.chunkTeller[g * vault.schema.columns + c];
                }
                if ((truthsOf(NONE) & TRUE) == 0) {
                    skippedGroups++;
                } else {
                    countStretches(g);
                }
            }
        }

        private void markAsked() {
            for (int c = 0; c < MOST_COLUMNS; c++) {
                asked[c] = false;
            }
            for (int s = 0; s < query.steps; s++) {
                int form = query.stepForm[s];
                if (form < NOT) {
                    asked[query.stepColumn[s]] = true;
                }
                if (comparesColumns(s)) {
                    asked[query.stepOther[s]] = true;
                }
            }
        }

        private boolean comparesColumns(int s) {
            return query.stepForm[s] < NULL_TEST && query.stepLiterals[s] == 0;
        }

        private void countStretches(int group) {
            int columns = vault.schema.columns;
            int rowsHere = vault.groupRow[group + 1] - vault.groupRow[group];
            // The first page's teller comes right behind that of its chunk.
            for (int c = 0; c < columns; c++) {
                teller[c]++;
            }
            int row = 0;
            for (int guard = 0; guard < rowsHere && row < rowsHere; guard++) {
                if ((truthsOf(NONE) & TRUE) == 0) {
                    skippedStretches++;
                }
                row = rowsHere;
                for (int c = 0; c < columns; c++) {
                    if (asked[c]) {
                        row = Math.min(row, pageEnd(group, c));
                    }
                }
                for (int c = 0; c < columns; c++) {
                    if (asked[c] && row < rowsHere && pageEnd(group, c) == row) {
                        teller[c]++;
                    }
                }
            }
        }

        /** The row, counted within the group, where the column's next page begins. */
        private int pageEnd(int group, int column) {
            int chunk = vault.chunkTeller[group * vault.schema.columns + column];
            int page = teller[column];
            return vault.tellerFirst[page] + vault.tellerEntries[page] - vault.tellerFirst[chunk];
        }

        private int truthsThatCanBe(int s) {
            int form = query.stepForm[s];
            int column = query.stepColumn[s];
            int first = teller[column];
            boolean columns = comparesColumns(s);
            int second = columns ? teller[query.stepOther[s]] : first;
            boolean nulls = vault.tellerNulls[first] > 0 || vault.tellerNulls[second] > 0;
            boolean both = vault.tellerNulls[first] < vault.tellerEntries[first]
                    && vault.tellerNulls[second] < vault.tellerEntries[second];
            if (form == NULL_TEST) {
                return (nulls ? TRUE : 0) | (both ? FALSE : 0);
            }
            if (form == VALUE_TEST) {
                return (nulls ? FALSE : 0) | (both ? TRUE : 0);
            }
            int truths = nulls ? UNKNOWN : 0;
            if (!both) {
                return truths;
            }
            int type = typeOf(column);
            boolean yes;
            boolean no;
            if (form == LIST_TEST) {
                yes = canBeListed(s, type, first);
                no = canBeUnlisted(s, type, first);
            } else if (columns) {
                yes = canCompare(form, type, first, second);
                no = canCompare(form ^ 1, type, first, second);
            } else {
                long literal = query.literal[query.stepOther[s]];
                yes = canBe(form, type, first, literal);
                no = canBe(form ^ 1, type, first, literal);
            }
            return truths | (yes ? TRUE : 0) | (no ? FALSE : 0);
        }

        /** By how the LEAST one compares with what is greatest there, the GREATEST one with the least. */
        private static boolean canHold(int operator, int low, int high) {
            switch (operator) {
                case IS:
                    return low <= 0 && high >= 0;
                case IS_NOT:
                    return low != 0 || high != 0;
                case BELOW:
                    return low < 0;
                case NOT_BELOW:
                    return high >= 0;
                case ABOVE:
                    return high > 0;
                default:
                    return low <= 0;
            }
        }

        private boolean canCompare(int operator, int type, int first, int second) {
            int low = vault.compare(type, vault.tellerLeast[first], vault.tellerGreatest[second]);
            int high = vault.compare(type, vault.tellerGreatest[first], vault.tellerLeast[second]);
            return canHold(operator, low, high);
        }

        private boolean canBe(int operator, int type, int asked, long literal) {
            byte[] pool = vault.pool;
            byte[] texts = query.texts;
            int told = vault.tellerDictionary[asked];
            if (told == NONE) {
                int low = compareValues(type, pool, vault.tellerLeast[asked], texts, literal);
                int high = compareValues(type, pool, vault.tellerGreatest[asked], texts, literal);
                return canHold(operator, low, high);
            }
            int from = told / 128;
            for (int k = from; k < from + told % 128; k++) {
                if (holds(operator, compareValues(type, pool, vault.dictionary[k], texts, literal))) {
                    return true;
                }
            }
            return false;
        }

        private boolean canBeListed(int s, int type, int asked) {
            for (int k = 0; k < query.stepLiterals[s]; k++) {
                if (canBe(IS, type, asked, query.literal[query.stepOther[s] + k])) {
                    return true;
                }
            }
            return false;
        }

        private boolean canBeUnlisted(int s, int type, int asked) {
            int told = vault.tellerDictionary[asked];
            if (told == NONE) {
                long least = vault.tellerLeast[asked];
                return vault.compare(type, least, vault.tellerGreatest[asked]) != 0 || !isListed(s, type, least);
            }
            int from = told / 128;
            for (int k = from; k < from + told % 128; k++) {
                if (!isListed(s, type, vault.dictionary[k])) {
                    return true;
                }
            }
            return false;
        }
    }

    /** Puts records together from the entries of their columns, WRITTEN. */
    private static final class Assembler {
        final Sink out = new Sink(MOST_OUTPUT);
        private final Vault vault;
        private final int[] cursor = new int[MOST_COLUMNS];
        /** Of each field that is written the first column in it that is, else NONE. */
        private final int[] guide = new int[MOST_FIELDS];

        Assembler(Vault itsVault) {
            vault = itsVault;
        }

        /** The output becomes a row, with all fields or those that are wanted: how many bytes. */
        int assemble(int row, boolean[] wanted) {
            out.forget();
            if (!vault.ready || row < 0 || row >= vault.rows) {
                return NONE;
            }
            Schema schema = vault.schema;
            Arrays.fill(guide, NONE);
            for (int c = schema.columns - 1; c >= 0; c--) {
                cursor[c] = vault.entryOf(row, c);
                int field = schema.fieldOf[c];
                int f = wanted == null || wanted[field] ? field : NONE;
                for (int guard = 0; guard <= MOST_DEPTH && f != NONE; guard++) {
                    guide[f] = c;
                    f = schema.parent[f];
                }
            }
            writeGroup(NONE, 0);
            if (out.over) {
                out.forget();
                return NONE;
            }
            return out.count;
        }

        private void writeGroup(int group, int depth) {
            if (depth > MOST_DEPTH) {
                return;
            }
            Schema schema = vault.schema;
            int stop = schema.pastOf(group);
            boolean some = false;
            out.put('{');
            for (int f = schema.firstIn(group); f < stop; f++) {
                if (schema.parent[f] != group || guide[f] == NONE) {
                    continue;
                }
                if (vault.def[cursor[guide[f]]] < schema.def[f]) {
                    passBy(f);
                    continue;
                }
                if (some) {
                    out.put(',');
                }
                some = true;
                out.putAll(schema.names, f * MOST_NAME, schema.nameSize[f]);
                out.put(':');
                if (schema.mode[f] == REPEATED) {
                    writeAll(f, depth);
                } else {
                    writeOne(f, depth);
                }
            }
            out.put('}');
        }

        /** Where a field has no value, each column in it has one entry to say so. */
        private void passBy(int field) {
            int stop = vault.schema.columnsBefore(vault.schema.past[field]);
            for (int c = vault.schema.column[field]; c < stop; c++) {
                cursor[c]++;
            }
        }

        private void writeAll(int field, int depth) {
            out.put('[');
            boolean more = true;
            for (int guard = 0; guard < MOST_ENTRIES && more; guard++) {
                writeOne(field, depth);
                more = vault.rep[cursor[guide[field]]] == vault.schema.rep[field];
                if (more) {
                    out.put(',');
                }
            }
            out.put(']');
        }

        private void writeOne(int field, int depth) {
            int type = vault.schema.type[field];
            if (type == GROUP) {
                writeGroup(field, depth + 1);
                return;
            }
            int column = vault.schema.column[field];
            long value = vault.val[cursor[column]];
            cursor[column]++;
            if (type == TEXT) {
                writeText(value);
            } else if (type == BOOL) {
                writeWord(value == 1 ? "true" : "false");
            } else {
                out.putDecimal(value);
            }
        }

        private void writeWord(String word) {
            for (int k = 0; k < word.length(); k++) {
                out.put(word.charAt(k));
            }
        }

        private void writeText(long reference) {
            int from = placeOf(reference);
            int to = from + sizeOf(reference);
            out.put('\'');
            for (int k = from; k < to; k++) {
                int c = vault.pool[k] & 255;
                if (c < 32 || c > 126) {
                    writeWord("\\x");
                    out.put(hexDigit(c >> 4));
                    out.put(hexDigit(c & 15));
                } else {
                    if (c == '\'' || c == '\\') {
                        out.put('\\');
                    }
                    out.put(c);
                }
            }
            out.put('\'');
        }

        private static int hexDigit(int four) {
            return four < 10 ? '0' + four : 'a' + four - 10;
        }
    }
}

import java.util.ArrayList;
import java.util.List;

/** Promises 4 to 7: schemas and records at the last case that still can be and at the first one that can't. */
public final class EdgeTextTest {
    private static final String LONG_NAME = "Abcdefgh_2345678";

    public static void main(String[] args) {
        schemaTooLong();
        schemaEndsTooEarly();
        schemaBytes();
        schemaNames();
        schemaFields();
        schemaColumns();
        schemaGroups();
        schemaOfNone();
        refusedSchemaChangesNothing();
        recordTooLong();
        recordEndsTooEarly();
        recordBytes();
        recordNames();
        recordLists();
        recordNumbers();
        recordTexts();
        recordBytesOfTexts();
        whateverElseIsWrong();
        noSchema();
        tooManyRecords();
        tooManyEntries();
        tooManyBytesOfTexts();
        refusedRecordChangesNothing();
        clearing();
        fewerBehindMore();
        VaultKit.finish();
    }

    private static void schema(String text, int want) {
        VaultKit.due("schema " + text, VaultKit.schema(new StripedVault(), text), want);
    }

    private static void record(String schema, String text, int want) {
        StripedVault v = VaultKit.vault(schema);
        VaultKit.due("record " + text, VaultKit.record(v, text), want);
        VaultKit.due("records behind " + text, v.records(), want == -1 ? 1 : 0);
    }

    /** "texts of at most 4000 bytes", "4000 if it is longer, whatever is in it". */
    private static void schemaTooLong() {
        String good = "required int a;";
        schema(good + " ".repeat(4000 - good.length()), -1);
        schema(good + " ".repeat(4001 - good.length()), 4000);
        schema(" ".repeat(4000 - good.length()) + good, -1);
        schema(" ".repeat(4001 - good.length()) + good, 4000);
        schema(" ".repeat(4000), 4000);
        schema("?" + " ".repeat(3999), 0);
        schema("?" + " ".repeat(4000), 4000);
        schema(" ".repeat(3999) + "?", 3999);
        schema(" ".repeat(4000) + "?", 4000);
        schema("?".repeat(10000), 4000);
    }

    /**
     * "by the text's size if it ends too early": each text that ends somewhere before its end. Where a word is cut that
     * must be that word, another one stands there: it is told by its beginning.
     */
    private static void schemaEndsTooEarly() {
        String text = "\n repeated  group gg { optional int aa ;required\ntext bb; required group h{repeated bool z;}} ";
        int end = text.lastIndexOf('}') + 1;
        for (int size = 0; size <= text.length(); size++) {
            int want = size >= end ? -1 : size;
            int word = size;
            while (word > 0 && Character.isLetter(text.charAt(word - 1))) {
                word--;
            }
            boolean cut = size < text.length() && word < size && Character.isLetter(text.charAt(size));
            schema(text.substring(0, size), cut && !text.startsWith("gg", word) && !text.startsWith("aa", word)
                    && !text.startsWith("bb", word) ? word : want);
        }
    }

    private static boolean isBlank(int b) {
        return b == 32 || b == 10;
    }

    private static boolean isLetter(int b) {
        return b >= 'a' && b <= 'z' || b >= 'A' && b <= 'Z';
    }

    private static boolean isDigit(int b) {
        return b >= '0' && b <= '9';
    }

    /** "BLANKS are bytes 32 and 10", "a letter (a .. z, A .. Z) and letters, digits, _": of all 256 bytes. */
    private static void schemaBytes() {
        for (int b = 0; b < 256; b++) {
            schema("required int a;" + (char) b, isBlank(b) ? -1 : 15);
            schema((char) b + "required int a;", isBlank(b) ? -1 : 0);
            schema("required int " + (char) b + ";", isLetter(b) ? -1 : isBlank(b) ? 14 : 13);
            boolean inWord = isLetter(b) || isDigit(b) || b == '_';
            schema("required int a" + (char) b + ";", inWord || isBlank(b) ? -1 : b == ';' ? 15 : 14);
            schema("required int a" + (char) b + "c;", inWord ? -1 : isBlank(b) ? 15 : b == ';' ? 15 : 14);
        }
    }

    /** "a word (also one of the texts' own) of at most 16 bytes that no other field of the same group has". */
    private static void schemaNames() {
        schema("required int a;", -1);
        schema("required int " + LONG_NAME + ";", -1);
        schema("required int " + LONG_NAME + "9;", 13);
        schema("required group " + LONG_NAME + "{required int a;}", -1);
        schema("required group " + LONG_NAME + "9{required int a;}", 15);
        schema("required int " + "a".repeat(300) + ";", 13);
        String[] own = {"required", "optional", "repeated", "bool", "int", "long", "text", "group", "true", "false"};
        for (String word : own) {
            schema("required int " + word + ";", -1);
            schema("required group " + word + "{required int " + word + ";}", -1);
            schema("required int " + word + ";required long " + word + ";", word.length() + 14 + 14);
        }
        schema("required int a;required group g{required int a;required int b;}required int b;", -1);
        schema("required int a;required group g{required int a;required int a;}", 60);
        schema("required group g{required int a;}required int g;", 46);
        schema("required group g{required int a;}required group g{required int a;}", 48);
        schema("required group g{required group g{required int g;}}", -1);
        schema("required int a;required int A;", -1);
        schema("required int " + LONG_NAME + ";required int " + LONG_NAME + ";", 43);
        schema("required int " + LONG_NAME + ";required int " + LONG_NAME.substring(0, 15) + "7;", -1);
        schema("required int abc;required int ab;required int abcd;", -1);
    }

    /** Groups of one column each: two fields for each of them. */
    private static String pairs(int count) {
        StringBuilder text = new StringBuilder();
        for (int k = 0; k < count; k++) {
            text.append("optional group g").append(k).append("{required int a;}");
        }
        return text.toString();
    }

    /** "At most 128 fields .. the NAME of one more can't stand". */
    private static void schemaFields() {
        schema(pairs(64), -1);
        schema(pairs(64) + "optional group x{", pairs(64).length() + 15);
        schema(pairs(64) + "optional group g0", pairs(64).length() + 15);
        schema(pairs(64) + "optional group", pairs(64).length() + 14);
        schema(pairs(64) + "optional bool b;", pairs(64).length() + 14);
        // 63 columns in 65 groups: 128 fields, of which the last one is a group that wants a field in it.
        String most = pairs(62) + "required group x{required group y{required int a;}required group z{";
        schema(most + "required int a;}}", most.length() + 13);
        StripedVault v = VaultKit.vault(pairs(64));
        VaultKit.due("write", v.write(1, 1) > 0, true);
        VaultKit.due("open", v.open(), 0);
        VaultKit.due("fields", v.opened(2), 128);
        VaultKit.due("columns", v.opened(3), 64);
    }

    private static String columns(int count) {
        StringBuilder text = new StringBuilder();
        for (int k = 0; k < count; k++) {
            text.append("optional bool c").append(k).append(";");
        }
        return text.toString();
    }

    /** "64 of them COLUMNS (no groups)". */
    private static void schemaColumns() {
        schema(columns(63), -1);
        schema(columns(64), -1);
        schema(columns(64) + "required text t;", columns(64).length() + 14);
        schema(columns(65), columns(64).length() + 14);
        String group = columns(64) + "required group g{";
        schema(group + "required int a;}", group.length() + 13);
        schema("repeated group g{" + columns(64) + "}", -1);
        schema("repeated group g{" + columns(64) + "}required int z;", columns(64).length() + 18 + 13);
    }

    /** "16 groups one within another". */
    private static void schemaGroups() {
        for (int depth = 1; depth <= 16; depth++) {
            schema("repeated group g{".repeat(depth) + "required int a;" + "}".repeat(depth), -1);
        }
        String deep = "repeated group g{".repeat(16);
        schema(deep + "required group g{required int a;}" + "}".repeat(16), deep.length() + 15);
        schema(deep + "required int a;}required group h{required int a;}" + "}".repeat(15), -1);
        schema(deep + "required int a;}required group h{required group i{", deep.length() + 16 + 17 + 15);
        schema(deep + "required int a;" + "}".repeat(16) + deep.replace('g', 'h').replace("hroup", "group")
                + "required int a;" + "}".repeat(16), -1);
    }

    /** "A SCHEMA is one FIELD or more", "one FIELD or more, }". */
    private static void schemaOfNone() {
        schema("", 0);
        schema("\n", 1);
        schema("required group g{}", 17);
        schema("required group g{ }", 18);
        schema("required group g{required int a;required group h{}}", 49);
        schema("}", 0);
        schema(";", 0);
        schema("required int a;;", 15);
    }

    /** "schema and records stay". */
    private static void refusedSchemaChangesNothing() {
        StripedVault v = VaultKit.vault("required int a;optional text t;", "{a:1,t:'x'}", "{a:2}");
        VaultKit.due("a fault at its end", VaultKit.schema(v, "required int b;required int c;required"), 38);
        VaultKit.due("no bytes", VaultKit.schema(v, ""), 0);
        VaultKit.due("too long", VaultKit.schema(v, "required int b;" + " ".repeat(3986)), 4000);
        VaultKit.due("records", v.records(), 2);
        VaultKit.due("record", VaultKit.record(v, "{a:3,t:'y'}"), -1);
        VaultKit.opened(v, 10, 10);
        VaultKit.due("fields", v.opened(2), 2);
        VaultKit.due("row", VaultKit.show(v, 0), "{a:1,t:'x'}");
        VaultKit.due("row", VaultKit.show(v, 2), "{a:3,t:'y'}");
        VaultKit.due("the same one again", VaultKit.schema(v, "required int a;optional text t;"), -1);
        VaultKit.due("there are no records then", v.records(), 0);
        VaultKit.due("what is open stays", v.opened(0), 3);
    }

    private static void recordTooLong() {
        String good = "{a:1}";
        record("required int a;", good + " ".repeat(3995), -1);
        record("required int a;", good + " ".repeat(3996), 4000);
        record("required int a;", " ".repeat(3995) + good, -1);
        record("required int a;", " ".repeat(3996) + good, 4000);
        record("required int a;", "?" + " ".repeat(4000), 4000);
        record("required int a;", "?" + " ".repeat(3999), 0);
        record("required int a;", " ".repeat(4000), 4000);
        record("required int a;", " ".repeat(3999) + "?", 3999);
    }

    private static final String SCHEMA = "required int aa;optional text tt;repeated bool bb;"
            + "optional group gg{required long ll;repeated group hh{optional int yy;}}required bool zz;";

    private static void recordEndsTooEarly() {
        String text = "\n{ aa : -15 ,tt:'x\\' \\\\y\\x41' , bb : [ true, false ] , gg : { ll:-90,hh:[{},{yy:0}]} , zz : false } ";
        int end = text.lastIndexOf('}') + 1;
        int open = text.indexOf('\'');
        int close = text.lastIndexOf('\'');
        for (int size = 0; size <= text.length(); size++) {
            int word = size;
            while (word > 0 && Character.isLetter(text.charAt(word - 1))) {
                word--;
            }
            boolean inText = size > open && size <= close;
            boolean cut = !inText && size < text.length() && word < size && Character.isLetter(text.charAt(size));
            record(SCHEMA, text.substring(0, size), cut ? word : size >= end ? -1 : size);
        }
    }

    private static void recordBytes() {
        for (int b = 0; b < 256; b++) {
            record("required int a;", "{a:1}" + (char) b, isBlank(b) ? -1 : 5);
            record("required int a;", (char) b + "{a:1}", isBlank(b) ? -1 : b == '{' ? 1 : 0);
            record("required int a;", "{" + (char) b + "a:1}", isBlank(b) ? -1 : 1);
            record("required int a;", "{a" + (char) b + ":1}", isBlank(b) ? -1
                    : isLetter(b) || isDigit(b) || b == '_' ? 1 : b == ':' ? 3 : 2);
            record("required int a;", "{a:" + (char) b + "}", isDigit(b) ? -1 : isBlank(b) ? 4 : 3);
            record("required int a;", "{a:1" + (char) b + "}", isDigit(b) || isBlank(b) ? -1 : b == '}' || b == ',' ? 5 : 4);
            record("required int a;", "{a:-" + (char) b + "}", b >= '1' && b <= '9' ? -1 : 3);
            record("required bool a;", "{a:true" + (char) b + "}",
                    isBlank(b) ? -1 : isLetter(b) || isDigit(b) || b == '_' ? 3 : b == '}' || b == ',' ? 8 : 7);
        }
    }

    /** "for each field of the schema, in their order", "A required one must be there; others may lack". */
    private static void recordNames() {
        String s = "required int a;optional int b;repeated int c;required int d;optional int e;";
        record(s, "{a:1,d:1}", -1);
        record(s, "{a:1,b:1,c:[1],d:1,e:1}", -1);
        record(s, "{a:1,c:[],d:1}", -1);
        record(s, "{d:1}", 1);
        record(s, "{b:1,d:1}", 1);
        record(s, "{a:1}", 4);
        record(s, "{a:1,b:1}", 8);
        record(s, "{a:1,c:[]}", 9);
        record(s, "{a:1,e:1}", 5);
        record(s, "{a:1,e:1,d:1}", 5);
        record(s, "{a:1,b:1,b:1,d:1}", 9);
        record(s, "{a:1,d:1,d:1}", 9);
        record(s, "{a:1,d:1,b:1}", 9);
        record(s, "{a:1,d:1,e:1,}", 13);
        record(s, "{a:1,d:1,e:1,f:1}", 13);
        record(s, "{a:1,d:1,e:1,e:1}", 13);
        record(s, "{a:1,d:1,}", 9);
        record(s, "{a:1,}", 5);
        record(s, "{a:1,,d:1}", 5);
        record(s, "{A:1,d:1}", 1);
        record(s, "{}", 1);
        record("optional int b;", "{}", -1);
        record("optional int b;", "{b:1}", -1);
        record("optional int b;", "{,}", 1);
        // In groups likewise: a required one must be there where its group is.
        String g = "optional group g{required int x;optional int y;}repeated group h{required int z;}";
        record(g, "{}", -1);
        record(g, "{g:{x:1}}", -1);
        record(g, "{g:{}}", 4);
        record(g, "{g:{y:1}}", 4);
        record(g, "{g:{x:1,}}", 8);
        record(g, "{g:{x:1,z:1}}", 8);
        record(g, "{h:[{z:1},{}]}", 11);
        record(g, "{h:[{z:1},]}", 10);
        record(g, "{h:[{z:1},{z:2}]}", -1);
        record("required group g{optional int y;}", "{}", 1);
        record("required group g{optional int y;}", "{g:{}}", -1);
    }

    /** "[ , its values with commas between, or nothing, ]". */
    private static void recordLists() {
        String s = "repeated int a;";
        record(s, "{a:[]}", -1);
        record(s, "{a:[ \n]}", -1);
        record(s, "{a:[1]}", -1);
        record(s, "{a:[1,2]}", -1);
        record(s, "{a:[,]}", 4);
        record(s, "{a:[1,]}", 6);
        record(s, "{a:[,1]}", 4);
        record(s, "{a:[1,,2]}", 6);
        record(s, "{a:[1 2]}", 6);
        record(s, "{a:1}", 3);
        record(s, "{a:}", 3);
        record(s, "{a:[1}", 5);
        record(s, "{a:[}", 4);
        record(s, "{a:[[1]]}", 4);
        record("optional int a;", "{a:[1]}", 3);
        record("optional int a;", "{a:[]}", 3);
        record("repeated group a{optional int b;}", "{a:{}}", 3);
        record("optional group a{optional int b;}", "{a:[{}]}", 3);
    }

    private static void number(String type, String text, boolean good) {
        record("required " + type + " a;", "{a:" + text + "}", good ? -1 : 3);
    }

    /** "digits without a 0 in front (and not - 0), in the range of 32 or 64 bits". */
    private static void recordNumbers() {
        String[] both = {"0", "1", "-1", "9", "10", "-10", "2147483646", "2147483647", "-2147483647", "-2147483648"};
        String[] wide = {"2147483648", "-2147483649", "4294967295", "4294967296", "-4294967296", "9223372036854775806",
            "9223372036854775807", "-9223372036854775807", "-9223372036854775808", "1000000000000000000"};
        String[] none = {"00", "01", "-0", "-00", "-01", "007", "--1", "+1", "9223372036854775808", "-9223372036854775809",
            "9223372036854775810", "9223372036854775817", "9999999999999999999", "10000000000000000000",
            "18446744073709551615", "18446744073709551616", "18446744073709551617", "-18446744073709551616",
            "99999999999999999999999999999999999999999999", "-", "", "'1'", "true", "a", ".5", "\\1"};
        for (String text : both) {
            number("int", text, true);
            number("long", text, true);
        }
        for (String text : wide) {
            number("int", text, false);
            number("long", text, true);
        }
        for (String text : none) {
            number("int", text, false);
            number("long", text, false);
        }
        record("required long a;", "{a:1.5}", 4);
        record("required long a;", "{a:1e5}", 4);
        record("required long a;", "{a:- 1}", 3);
        record("required long a;", "{a:-", 4);
        record("required long a;", "{a:-\n", 3);
        record("required long a;", "{a:9223372036854775808", 3);
    }

    /** "at most 255 bytes", "the 256th, is told by its own place". */
    private static void recordTexts() {
        String s = "required text a;";
        String[] ways = {"q", "\\'", "\\\\", "\\x00"};
        for (String way : ways) {
            record(s, "{a:'" + way.repeat(255) + "'}", -1);
            record(s, "{a:'" + way.repeat(256) + "'}", 4 + 255 * way.length());
            record(s, "{a:'" + way.repeat(254) + "q'}", -1);
            record(s, "{a:'" + way.repeat(255), 4 + 255 * way.length());
            record(s, "{a:'" + way.repeat(255) + "\u0001'}", 4 + 255 * way.length());
        }
        record(s, "{a:''}", -1);
        record(s, "{a:'''}", 5);
        record(s, "{a:'a''b'}", 6);
        record(s, "{a:'\\'}", 7);
        record(s, "{a:\"a\"}", 3);
        // \ and what is wrong behind it, by the place of \ ; ending too early by the size.
        String[] wrong = {"\\q", "\\x", "\\xg0", "\\x0g", "\\x'", "\\x0'", "\\xA0", "\\x0A", "\\X41", "\\ ", "\\\n", "\\u0041", "\\x 1"};
        for (String text : wrong) {
            record(s, "{a:'ok" + text + "  '}", 6);
        }
        String[] early = {"\\", "\\x", "\\x4", "\\x41", "\\xf"};
        for (String text : early) {
            record(s, "{a:'ok" + text, 6 + text.length());
        }
        String[] last = {"\\q", "\\xg", "\\x4g", "\\ ", "\\x4'", "\\x'"};
        for (String text : last) {
            record(s, "{a:'ok" + text, 6);
        }
        record(s, "{a:'\\x00\\x09\\xaf\\xfa\\x99\\xff'}", -1);
    }

    /** "each from 32 to 126 stands for itself", "a byte that can't stand .. by its own place": of all 256 bytes. */
    private static void recordBytesOfTexts() {
        for (int b = 0; b < 256; b++) {
            String text = "{a:'x" + (char) b + "y'}";
            int want = b == '\'' ? 6 : b < 32 || b > 126 || b == '\\' ? 5 : -1;
            record("required text a;", text, want);
            String hex = String.format("%02x", b);
            StripedVault v = VaultKit.vault("required text a;", "{a:'\\x" + hex + "'}");
            VaultKit.opened(v, 1, 1);
            String written = b == '\'' ? "\\'" : b == '\\' ? "\\\\" : b < 32 || b > 126 ? "\\x" + hex : "" + (char) b;
            VaultKit.due("WRITTEN", VaultKit.show(v, 0), "{a:'" + written + "'}");
        }
    }

    /** "told by the place of what stands there, whatever else is wrong with it". */
    private static void whateverElseIsWrong() {
        record("required bool a;", "{a:-", 3);
        record("required bool a;", "{a:'\u0001", 3);
        record("required bool a;", "{a:01", 3);
        record("required int a;", "{a:'\\q", 3);
        record("required int a;", "{a:'", 3);
        record("required text a;", "{a:-", 3);
        record("required text a;", "{a:007", 3);
        record("required group a{optional int b;}", "{a:'\\", 3);
        record("repeated int a;", "{a:-", 3);
        record("required int a;", "{-", 1);
        record("required int a;", "{'\\", 1);
        record("required int a;", "-", 0);
        record("required int a;", "{a-", 2);
        record("required int a;", "{a:1-", 4);
        record("required int a;", "{a:1}-", 5);
        record("required int a;", "{a:1,-", 5);
    }

    /** "- 2 if there is no SCHEMA (ahead of all)". */
    private static void noSchema() {
        String[] texts = {"", "{}", "?", " ".repeat(4001)};
        for (String text : texts) {
            StripedVault v = new StripedVault();
            VaultKit.due("no schema", VaultKit.record(v, text), -2);
            VaultKit.due("a schema with a fault is none", VaultKit.schema(v, "required int a"), 14);
            VaultKit.due("no schema", VaultKit.record(v, text), -2);
            VaultKit.due("records", v.records(), 0);
        }
    }

    /** "behind the text, if there are 2000 records": more calls than 512, but the bound is the same. */
    private static void tooManyRecords() {
        StripedVault v = VaultKit.vault("optional int a;");
        for (int k = 0; k < 2000; k++) {
            VaultKit.due("record " + k, VaultKit.record(v, "{}"), -1);
        }
        VaultKit.due("records", v.records(), 2000);
        VaultKit.due("one more", VaultKit.record(v, "{}"), -2);
        VaultKit.due("a fault comes first", VaultKit.record(v, "{a}"), 2);
        VaultKit.due("so does 4000", VaultKit.record(v, " ".repeat(4001)), 4000);
        VaultKit.due("records", v.records(), 2000);
        VaultKit.due("2000 rows", v.write(1000, 2000) > 0, true);
        VaultKit.due("open", v.open(), 0);
        VaultKit.due("rows", v.opened(0), 2000);
        v.clear();
        VaultKit.due("none", v.records(), 0);
        VaultKit.due("one", VaultKit.record(v, "{}"), -1);
    }

    private static String lists(int count) {
        return "{g:[{}" + ",{}".repeat(count - 1) + "]}";
    }

    /** "more than 10000 entries (of all columns and records together)". */
    private static void tooManyEntries() {
        String four = "repeated group g{optional int a;optional int b;optional int c;optional int d;}";
        StripedVault v = VaultKit.vault(four);
        VaultKit.due("4000 entries", VaultKit.record(v, lists(1000)), -1);
        VaultKit.due("8000 entries", VaultKit.record(v, lists(1000)), -1);
        VaultKit.due("10004 entries", VaultKit.record(v, lists(501)), -2);
        VaultKit.due("10000 entries", VaultKit.record(v, lists(500)), -1);
        VaultKit.due("none: an entry of each column", VaultKit.record(v, "{}"), -2);
        VaultKit.due("a fault comes first", VaultKit.record(v, "{g:[{}}"), 6);
        VaultKit.due("records", v.records(), 3);
        VaultKit.due("another schema", VaultKit.schema(v, "optional int a;"), -1);
        VaultKit.due("there is room again", VaultKit.record(v, "{}"), -1);
        // One record alone: 11 columns of 909 groups are 9999 entries, of 910 they are 10010.
        StringBuilder schema = new StringBuilder("optional int z;repeated group g{");
        for (int k = 0; k < 11; k++) {
            schema.append("optional int c").append(k).append(";");
        }
        v = VaultKit.vault(schema + "}");
        VaultKit.due("10011 entries", VaultKit.record(v, lists(910)), -2);
        VaultKit.due("10000 entries", VaultKit.record(v, lists(909)), -1);
        v = VaultKit.vault(schema.toString().replace("optional int z;", "optional int z;optional int y;") + "}");
        VaultKit.due("10001 entries", VaultKit.record(v, lists(909)), -2);
    }

    private static String texts(int count, int size, int last) {
        String one = "'" + "q".repeat(size) + "',";
        return "{t:[" + one.repeat(count) + "'" + "q".repeat(last) + "']}";
    }

    /** "or 60000 bytes of texts": more calls than 512, but the bound is the same. */
    private static void tooManyBytesOfTexts() {
        StripedVault v = VaultKit.vault("repeated text t;");
        for (int k = 0; k < 16; k++) {
            VaultKit.due("3600 bytes", VaultKit.record(v, texts(14, 240, 240)), -1);
        }
        VaultKit.due("60001 bytes", VaultKit.record(v, texts(9, 240, 241)), -2);
        VaultKit.due("60000 bytes", VaultKit.record(v, texts(9, 240, 240)), -1);
        VaultKit.due("one byte more", VaultKit.record(v, "{t:['q']}"), -2);
        VaultKit.due("a fault comes first", VaultKit.record(v, "{t:['q'}"), 7);
        VaultKit.due("no byte more", VaultKit.record(v, "{t:['','']}"), -1);
        VaultKit.due("what \\ stands for counts", VaultKit.record(v, "{t:['\\x41']}"), -2);
        VaultKit.due("records", v.records(), 18);
        v.clear();
        VaultKit.due("there is room again", VaultKit.record(v, texts(14, 240, 240)), -1);
    }

    private static void refusedRecordChangesNothing() {
        List<String> wrong = new ArrayList<>(List.of("", "{", "{a:1,t:'zz'", "{a:1,t:'zz'}}", "{a:1,t:'zz',g:[{},{x:01}]}", " ".repeat(4001)));
        StripedVault v = VaultKit.vault("required int a;optional text t;repeated group g{optional int x;}", "{a:1,t:'first'}");
        for (String text : wrong) {
            VaultKit.due("refused: " + text, VaultKit.record(v, text) >= 0, true);
            VaultKit.due("records", v.records(), 1);
        }
        VaultKit.due("record", VaultKit.record(v, "{a:2,t:'second',g:[{x:1},{}]}"), -1);
        VaultKit.opened(v, 1, 1);
        VaultKit.due("rows", v.opened(0), 2);
        VaultKit.due("row", VaultKit.show(v, 0), "{a:1,t:'first'}");
        VaultKit.due("row", VaultKit.show(v, 1), "{a:2,t:'second',g:[{x:1},{}]}");
    }

    /** Nothing is left of records and fields that were there before. */
    private static void fewerBehindMore() {
        StripedVault v = VaultKit.vault("repeated int a;repeated text t;", "{a:[1,2,3,4],t:['x','y','z']}", "{a:[5,6,7]}");
        v.clear();
        VaultKit.due("record", VaultKit.record(v, "{a:[8],t:['q']}"), -1);
        VaultKit.opened(v, 9, 9);
        VaultKit.due("row", VaultKit.show(v, 0), "{a:[8],t:['q']}");
        VaultKit.due("record", VaultKit.record(v, "{a:[9,10]}"), -1);
        VaultKit.opened(v, 9, 9);
        VaultKit.due("row", VaultKit.show(v, 1), "{a:[9,10]}");
        VaultKit.due("rows", v.opened(0), 2);
        for (int k = 0; k < 3; k++) {
            VaultKit.due("two fields", VaultKit.schema(v, "required int a;optional int b;"), -1);
            VaultKit.due("record", VaultKit.record(v, "{a:1,b:2}"), -1);
            VaultKit.due("another one", VaultKit.schema(v, "required int c;"), -1);
            VaultKit.due("one field", VaultKit.schema(v, "required int a;"), -1);
            VaultKit.due("no second one", VaultKit.record(v, "{a:1,b:2}"), 5);
            VaultKit.due("a group", VaultKit.schema(v, "required group g{required int a;}"), -1);
            VaultKit.due("no second one", VaultKit.record(v, "{g:{a:1,b:2}}"), 8);
            VaultKit.due("no second one", VaultKit.record(v, "{g:{a:1},b:2}"), 9);
        }
    }

    private static void clearing() {
        StripedVault v = new StripedVault();
        v.clear();
        VaultKit.due("no schema", v.records(), 0);
        VaultKit.due("schema", VaultKit.schema(v, "required text a;"), -1);
        v.clear();
        VaultKit.due("none", v.records(), 0);
        VaultKit.due("record", VaultKit.record(v, "{a:'one'}"), -1);
        VaultKit.opened(v, 1, 1);
        v.clear();
        VaultKit.due("none", v.records(), 0);
        VaultKit.due("what is open stays", VaultKit.show(v, 0), "{a:'one'}");
        VaultKit.due("a file without groups", v.write(1, 1), 16 + 7);
        VaultKit.due("record", VaultKit.record(v, "{a:'two'}"), -1);
        VaultKit.opened(v, 1, 1);
        VaultKit.due("rows", v.opened(0), 1);
        VaultKit.due("row", VaultKit.show(v, 0), "{a:'two'}");
    }
}

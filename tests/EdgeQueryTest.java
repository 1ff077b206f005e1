/** Promise 17: queries at the last case that still can be and at the first one that can't, and what is met first. */
public final class EdgeQueryTest {
    private static final String SCHEMA = "required int aa;optional long bb;optional text cc;required bool dd;"
            + "optional group gg{optional int x;repeated int y;required group h{required text z;}}"
            + "repeated group rr{optional int x;}repeated long ll;"
            + "optional int p0;optional int p1;optional int p2;optional int p3;optional int p4;optional int p5;optional int p6;";
    private static final String WHERE = "select aa where ";
    private static byte[] file;
    private static StripedVault vault;
    private static int calls;

    public static void main(String[] args) {
        file = VaultKit.file(VaultKit.opened(VaultKit.vault(SCHEMA, "{aa:1,dd:true}"), 1, 1));
        nothingOpen();
        tooLong();
        endsTooEarly();
        bytes();
        howManyItems();
        howManyBys();
        howDeep();
        howManySteps();
        howManyLiterals();
        numbers();
        texts();
        bytesOfTexts();
        paths();
        types();
        signs();
        itemsBehindBy();
        metFirst();
        refusedChangesNothing();
        oneBehindTheOther();
        VaultKit.finish();
    }

    /** A new vault now and then: an object is used for at most 512 calls. */
    private static void place(String text, int want) {
        int needed = text.length() / 20 + 3;
        if (vault == null || calls + needed > 500) {
            vault = VaultKit.taken(file);
            VaultKit.due("open", vault.open(), 0);
            calls = file.length / 20 + 4;
        }
        calls += needed;
        VaultKit.due("query " + text, VaultKit.query(vault, text), want);
    }

    /** "- 2 if nothing is open (ahead of that; the INPUT is used up all the same)". */
    private static void nothingOpen() {
        String[] texts = {"", "select aa", "?", "?".repeat(2001)};
        for (String text : texts) {
            StripedVault v = new StripedVault();
            VaultKit.due("nothing open", VaultKit.query(v, text), -2);
            v.take();
            VaultKit.due("the INPUT is used up", v.size(), 0);
        }
    }

    /** "of at most 2000 bytes", "2000 if it is longer, whatever is in it". */
    private static void tooLong() {
        place("select aa" + " ".repeat(1991), -1);
        place("select aa" + " ".repeat(1992), 2000);
        place(" ".repeat(1991) + "select aa", -1);
        place(" ".repeat(1992) + "select aa", 2000);
        place("?" + " ".repeat(1999), 0);
        place("?" + " ".repeat(2000), 2000);
        place(" ".repeat(2000), 2000);
        place(" ".repeat(1999) + "?", 1999);
        place(" ".repeat(2000) + "?", 2000);
    }

    /** "by the text's size if it ends too early (right behind a - , too)": where it ends behind !, it can. */
    private static void endsTooEarly() {
        String[] words = {"select", "count!", "(", "bb", ")!", ",", "sum", "(", "aa", ")!", "where", "not", "(", "aa", "=", "-57", "or", "cc",
            "in", "(", "'x\\x41\\'y'", ",", "'\\\\'", ")", ")!", "and", "bb", "is", "not", "null!", "and", "gg.x", ">=", "0!", "or", "dd", "<>",
            "true!", "or", "aa", "<", "bb!", "group", "by", "aa!", ",", "gg.h.z!"};
        StringBuilder text = new StringBuilder();
        for (String marked : words) {
            boolean whole = marked.endsWith("!");
            String word = whole ? marked.substring(0, marked.length() - 1) : marked;
            int start = text.length();
            for (int size = 1; size <= word.length(); size++) {
                String part = word.substring(0, size);
                char last = part.charAt(size - 1);
                boolean cut = size < word.length();
                int want = start + size;
                if (cut && Character.isLetter(last)) {
                    // A part of a word is another word; part of gg.h.z is gg.h, a group.
                    want = word.charAt(0) == '\'' ? start + size : start;
                } else if (!cut && whole || cut && whole && Character.isDigit(last)) {
                    want = -1;
                }
                place(text + part, want);
            }
            text.append(word);
            place(text + " ", whole ? -1 : text.length() + 1);
            place(text + "\n ", whole ? -1 : text.length() + 2);
            text.append(" ");
        }
        place("", 0);
        place(" \n", 2);
        place(WHERE + "aa = -", 22);
        place(WHERE + "aa in (-", 24);
        place(WHERE + "aa in (1, -", 27);
        place(WHERE + "cc = -", 22);
    }

    /** Of all 256 bytes, which can stand behind an item, in a name, in a number. */
    private static void bytes() {
        for (int b = 0; b < 256; b++) {
            boolean blank = b == 32 || b == 10;
            boolean inWord = b >= 'a' && b <= 'z' || b >= 'A' && b <= 'Z' || b >= '0' && b <= '9' || b == '_';
            place("select aa " + (char) b, blank ? -1 : b == ',' ? 11 : 10);
            place((char) b + "select aa", blank ? -1 : 0);
            place("select aa" + (char) b, blank ? -1 : inWord ? 7 : b == ',' || b == '.' ? 10 : 9);
            place(WHERE + "aa=1" + (char) b, blank || b >= '0' && b <= '9' ? -1 : 20);
            place(WHERE + "aa=" + (char) b, b >= '0' && b <= '9' ? -1 : blank || b == '-' || b == '\'' ? 20 : 19);
        }
    }

    private static String many(String one, String between, int count) {
        return one + (between + one).repeat(count - 1);
    }

    /** "At most 16 items": "One item .. too many by its beginning", "as it begins". */
    private static void howManyItems() {
        String[] items = {"aa", "gg.h.z", "rr"};
        for (String item : items) {
            String most = "select " + many(item, ",", 16);
            place(most, -1);
            place(most + "," + item, most.length() + 1);
            place(most + ",\n " + item, most.length() + 3);
            place(most + ",zz", most.length() + 1);
            place(most + ",?", most.length() + 1);
            place(most + ",", most.length() + 1);
            place(most + ", where", most.length() + 2);
            place(most + " where aa=1", -1);
        }
        String most = "select " + many("count", ",", 8) + "," + many("min(cc)", ",", 8);
        place(most, -1);
        place(most + ",count", most.length() + 1);
        place(most + ",sum(cc)", most.length() + 1);
        place(most + ",sum(", most.length() + 1);
    }

    /** "8 paths behind by". */
    private static void howManyBys() {
        String most = "select count group by aa,p0,p1,p2,p3,p4,p5,p6";
        place(most.substring(0, most.length() - 3), -1);
        place(most, -1);
        place(most + ",dd", most.length() + 1);
        place(most + ",aa", most.length() + 1);
        place(most + ", zz", most.length() + 2);
        place(most + ",?", most.length() + 1);
        place(most + ",", most.length() + 1);
        place(most + " ,", most.length() + 2);
    }

    /** "At most 32 not, ( of CONDITIONS in one another in a condition". */
    private static void howDeep() {
        for (int nots = 0; nots <= 32; nots++) {
            int open = 32 - nots;
            String deep = WHERE + "not ".repeat(nots) + "(".repeat(open);
            place(deep + "aa=1" + ")".repeat(open), -1);
            place(deep + "not aa=1", deep.length());
            place(deep + "(aa=1", deep.length());
            place(deep + " (", deep.length() + 1);
            place(deep + " not", deep.length() + 1);
            place(deep + "aa in (1)" + ")".repeat(open), -1);
        }
        String inner = "(".repeat(31) + "not aa=1" + ")".repeat(31);
        place(WHERE + inner + " and " + inner + " or " + inner, -1);
        place(WHERE + inner + " and (" + inner, (WHERE + inner + " and (" + "(".repeat(31)).length());
    }

    /** "64 STEPS": "each test, not, and, or of the CONDITION is one"; "one STEP too many by the place of its ..". */
    private static void howManySteps() {
        String[] tests = {"aa=1", "bb is null", "bb is not null", "aa in (1)", "aa<bb"};
        for (String test : tests) {
            // 32 tests and 31 ands or ors: 63 steps.
            for (String join : new String[] {" and ", " or "}) {
                String most = WHERE + many(test, join, 32);
                place(most, -1);
                place(most.replace(WHERE, WHERE + "not "), -1);
                place(most + join + test, most.length() + 1);
                place(most + join + "zz", most.length() + join.length());
                place(most + join + "not " + test, most.length() + join.length());
                place(most + join + "(" + test + ")", most.length() + 1);
                // The 65th one is a test: 64 steps before it.
                String full = most.replace(WHERE, WHERE + "not ") + join;
                place(full + test, full.length());
                place(full + "not " + test, full.length() + 4);
                place(full + "(" + test, full.length() + 1);
                place(full, full.length());
            }
        }
        // The test is a step when all that it asks has been read.
        String full = WHERE + "not " + many("aa=1", " and ", 32) + " and ";
        place(full + "aa=", full.length() + 3);
        place(full + "aa='x'", full.length() + 3);
        place(full + "aa in (1", full.length() + 8);
        place(full + "aa in (1)", full.length());
        place(full + "aa is", full.length() + 5);
        place(full + "aa is null", full.length());
        place(full + "aa=zz", full.length() + 3);
        place(full + "aa=bb", full.length());
        // An and is a step when the test behind it has been read, an or when all that is joined by and behind it has.
        String half = WHERE + many("aa=1", " and ", 31) + " or ";
        place(half + "aa=1", -1);
        place(half + "aa=1 and aa=1", half.length() - 3);
        place(half + "aa=1 and aa=1 and aa=1", half.length() + 18);
        place(half + "(aa=1 or aa=1)", half.length() - 3);
        place(half + "not aa=1", -1);
        place(half + "not not aa=1", half.length() - 3);
        place(half + "not not not aa=1", half.length());
    }

    /** "64 literals": "literal too many by its beginning", "when it has been read". */
    private static void howManyLiterals() {
        String most = WHERE + "aa in (" + many("1", ",", 64);
        place(most + ")", -1);
        place(most + ",1)", most.length() + 1);
        place(most + ", 1)", most.length() + 2);
        place(most + ",1", most.length() + 1);
        place(most + ",01)", most.length() + 1);
        place(most + ",-", most.length() + 2);
        place(most + ",'x", most.length() + 3);
        place(most + ",'x\\q", most.length() + 3);
        place(most + ",'x'", most.length() + 1);
        place(most + ",zz", most.length() + 1);
        place(most + ",", most.length() + 1);
        place(most + ") and aa=bb", -1);
        place(most + ") and aa=1", most.length() + 9);
        place(most + ") and cc='x'", most.length() + 9);
        place(most + ") and dd=true", most.length() + 9);
        place(most + ") and dd in (true)", most.length() + 13);
        String some = WHERE + "aa in (" + many("1", ",", 62) + ") and cc in ('x')";
        place(some + " and dd=true", -1);
        place(some + " and dd in (true, false)", some.length() + 18);
    }

    /** "in 64 bits", "digits without a 0 in front, not - 0": for int and for long. */
    private static void numbers() {
        String[] good = {"0", "1", "-1", "10", "2147483647", "2147483648", "-2147483649", "9223372036854775806", "9223372036854775807",
            "-9223372036854775807", "-9223372036854775808"};
        String[] wrong = {"00", "01", "-0", "-00", "-01", "9223372036854775808", "-9223372036854775809", "9223372036854775810",
            "10000000000000000000", "18446744073709551616", "18446744073709551617", "-99999999999999999999999999999", "--1", "-a", "- 1"};
        for (String column : new String[] {"aa", "bb"}) {
            for (String number : good) {
                place(WHERE + column + " = " + number, -1);
                place(WHERE + column + " in (" + number + ")", -1);
            }
            for (String number : wrong) {
                place(WHERE + column + " = " + number, 21);
                place(WHERE + column + " in (" + number + ")", 23);
            }
        }
        place(WHERE + "cc = 1", 21);
        place(WHERE + "cc = 01", 21);
        place(WHERE + "cc = 1x", 21);
        place(WHERE + "aa = 1x", 22);
        place(WHERE + "aa = 1.5", 22);
        place(WHERE + "aa = +1", 21);
    }

    /** "at most 255 bytes", "the 256th, is told by its own place, \ and what is wrong behind it by that of \". */
    private static void texts() {
        String start = WHERE + "cc='";
        String[] ways = {"q", "\\'", "\\\\", "\\x00"};
        for (String way : ways) {
            place(start + way.repeat(255) + "'", -1);
            place(start + way.repeat(255) + "q'", start.length() + 255 * way.length());
            place(start + way.repeat(255) + "\\x41'", start.length() + 255 * way.length());
            place(start + way.repeat(255), start.length() + 255 * way.length());
            place(start + way.repeat(255) + "\n'", start.length() + 255 * way.length());
        }
        place(start + "'", -1);
        place(start + "''", start.length() + 1);
        String[] wrong = {"\\q", "\\xg0", "\\x0g", "\\x'", "\\x0'", "\\xA0", "\\x0A", "\\X41", "\\ ", "\\\n"};
        for (String text : wrong) {
            place(start + "ok" + text + "  '", start.length() + 2);
        }
        String[] last = {"\\q", "\\xg", "\\x4g", "\\x4'"};
        for (String text : last) {
            place(start + "ok" + text, start.length() + 2);
        }
        String[] early = {"\\", "\\x", "\\x4", "\\x41", "\\'"};
        for (String text : early) {
            place(start + "ok" + text, start.length() + 2 + text.length());
        }
        // As many bytes of TEXTS as a query has room for, each text as it is.
        StripedVault v = VaultKit.opened(VaultKit.vault("required text t;", "{t:'" + "c".repeat(255) + "'}", "{t:'gx'}", "{t:'" + "f".repeat(254) + "'}"), 9, 9);
        StringBuilder query = new StringBuilder("select t where t in ('gx'");
        for (char c = 'a'; c < 'h'; c++) {
            query.append(",'").append(("" + c).repeat(255)).append("'");
        }
        VaultKit.due("query", VaultKit.query(v, query + ") and t <> '" + "b".repeat(120) + "'"), -1);
        VaultKit.due("run", v.run(), 2);
        VaultKit.due("row", v.row(0), 0);
        VaultKit.due("row", v.row(1), 1);
    }

    private static void bytesOfTexts() {
        for (int b = 0; b < 256; b++) {
            int want = b == '\'' ? 22 : b < 32 || b > 126 || b == '\\' ? 21 : -1;
            place(WHERE + "cc='x" + (char) b + "y'", want);
        }
        // What is meant is that byte.
        StripedVault v = null;
        for (int b = 0; b < 256; b += 5) {
            if (b % 40 == 0) {
                v = VaultKit.opened(VaultKit.vault("required text t;", "{t:'\\xfe'}", "{t:''}"), 9, 9);
            }
            VaultKit.due("query", VaultKit.query(v, "select t where t < '" + String.format("\\x%02x", b) + "'"), -1);
            VaultKit.due("less than " + b, v.run(), b > 0xfe ? 2 : 1);
        }
    }

    /** "names with . between (no blanks about it)", "A PATH .. that names nothing .. by its beginning". */
    private static void paths() {
        String[] good = {"aa", "gg", "gg.x", "gg.y", "gg.h", "gg.h.z", "rr", "rr.x", "ll"};
        for (String path : good) {
            place("select " + path, -1);
            place("select " + path + "," + path, -1);
            place("select " + path + "q", 7);
            place("select " + path + ".q", 7);
            place("select " + path + ".", 8 + path.length());
            place("select " + path + "..x", 8 + path.length());
            place("select " + path + ".5", 8 + path.length());
            place("select " + path + ".count", 8 + path.length());
            place("select " + path + " .x", 8 + path.length());
            place("select " + path + " x", 8 + path.length());
        }
        place("select gg. x", 10);
        place("select gg.\nx", 10);
        place("select .aa", 7);
        place("select x", 7);
        place("select gg.z", 7);
        place("select h.z", 7);
        place("select gg.gg", 7);
        place("select AA", 7);
        place("select gg.X", 7);
        place("select " + "q".repeat(17), 7);
        place("select " + "q".repeat(900) + ".x", 7);
        String[] own = {"select", "where", "group", "by", "and", "or", "not", "is", "null", "in", "true", "false", "sum", "min", "max"};
        for (String word : own) {
            int behind = 7 + word.length();
            place("select " + word, word.equals("sum") || word.equals("min") || word.equals("max") ? behind : 7);
            place("select count(" + word + ")", 13);
            place("select count group by " + word, 22);
            place(WHERE + "gg." + word + " = 1", 19);
            place(WHERE + word + " = 1", word.equals("not") ? 20 : 16);
            place(WHERE + "aa = " + word, 21);
        }
    }

    /** "PATHS in a condition, behind by, and in count ( .. ) and the others, are FLAT and no groups", and their types. */
    private static void types() {
        String[] notFlat = {"gg", "gg.y", "gg.h", "rr", "rr.x", "ll", "zz"};
        String[] flat = {"aa", "bb", "cc", "dd", "gg.x", "gg.h.z"};
        int[] type = {2, 2, 3, 1, 2, 3};
        String[] literals = {"5", "true", "'x'", "-5", "false", "''"};
        int[] literalType = {2, 1, 3, 2, 1, 3};
        for (String path : notFlat) {
            place(WHERE + path + " is null", 16);
            place(WHERE + path + " =", 16);
            place(WHERE + "aa = " + path, 21);
            place("select count group by " + path, 22);
            for (String form : new String[] {"count", "sum", "min", "max"}) {
                place("select " + form + "(" + path + ")", 8 + form.length());
            }
        }
        for (int k = 0; k < flat.length; k++) {
            int behind = 16 + flat[k].length();
            place(WHERE + flat[k] + " is null", -1);
            place(WHERE + flat[k] + " is not null", -1);
            place("select count group by " + flat[k], -1);
            place("select " + flat[k] + " group by " + flat[k], -1);
            place("select count(" + flat[k] + "),min(" + flat[k] + "),max(" + flat[k] + ")", -1);
            place("select sum(" + flat[k] + ")", type[k] == 2 ? -1 : 11);
            for (int n = 0; n < literals.length; n++) {
                boolean fits = type[k] == literalType[n];
                for (String operator : new String[] {"=", "<>", "<", "<=", ">", ">="}) {
                    place(WHERE + flat[k] + operator + literals[n], fits ? -1 : behind + operator.length());
                }
                place(WHERE + flat[k] + " in (" + literals[n] + ")", fits ? -1 : behind + 5);
            }
            for (int n = 0; n < flat.length; n++) {
                place(WHERE + flat[k] + "=" + flat[n], type[k] == type[n] ? -1 : behind + 1);
            }
        }
        place(WHERE + "aa in (1,2,'x')", 27);
        place(WHERE + "aa in (bb)", 23);
        place(WHERE + "aa in (1,bb)", 25);
    }

    /** "OPERATORS: = <> < <= > >=": signs of two bytes have no blank in them. */
    private static void signs() {
        for (String operator : new String[] {"=", "<>", "<", "<=", ">", ">="}) {
            place(WHERE + "aa" + operator + "1", -1);
            place(WHERE + "aa \n" + operator + "\n 1", -1);
        }
        place(WHERE + "aa < > 1", 21);
        place(WHERE + "aa < = 1", 21);
        place(WHERE + "aa > = 1", 21);
        place(WHERE + "aa == 1", 20);
        place(WHERE + "aa =< 1", 20);
        place(WHERE + "aa => 1", 20);
        place(WHERE + "aa >< 1", 20);
        place(WHERE + "aa <<1", 20);
        place(WHERE + "aa <>=1", 21);
        place(WHERE + "aa != 1", 19);
        place(WHERE + "aa 1", 19);
        place(WHERE + "aa and", 19);
        place(WHERE + "aa (1)", 19);
        place(WHERE + "aa in 1", 22);
        place(WHERE + "aa in (1", 24);
        place(WHERE + "aa is true", 22);
        place(WHERE + "aa not null", 19);
        place(WHERE + "aa is not not null", 26);
        place(WHERE + "not", 19);
        place(WHERE + "not and", 20);
        place(WHERE + "(aa=1))", 22);
        place(WHERE + "((aa=1)", 23);
        place(WHERE + "aa=1 aa=1", 21);
        place(WHERE + "aa=1 or or aa=1", 24);
        place(WHERE + "aa=1,aa=1", 20);
        place("select aa group by aa aa", 22);
        place("select aa by aa", 10);
        place("select aa group aa", 16);
        place("select aa where group by aa", 16);
        place("select count()", 13);
        place("select count(aa", 15);
        place("select count(aa,bb)", 15);
        place("select sum", 10);
        place("select sum aa", 11);
        place("select sum,aa", 10);
        place("select count aa", 13);
        place("select count (aa)", -1);
        place("select\nmin\n(\naa\n)\n", -1);
        place("select (aa)", 7);
        place("select 5", 7);
        place("select 'x'", 7);
        place("select -", 7);
        place("select *", 7);
        place("selectaa", 0);
        place("select aa where(aa=1)and(aa=1)or(not(aa=1))", -1);
        place("select aa where aa=1group by aa", -1);
    }

    /** "Where a query COLLECTS, an ITEM that is a PATH is one of those behind by", by its beginning, at the end. */
    private static void itemsBehindBy() {
        place("select aa,bb group by bb,aa", -1);
        place("select aa,aa,aa group by aa", -1);
        place("select count group by aa", -1);
        place("select aa,count group by aa", -1);
        place("select aa,bb group by aa", 10);
        place("select bb,aa,cc group by aa", 7);
        place("select aa,count", 7);
        place("select count,aa", 13);
        place("select count,aa,min(bb),cc", 13);
        place("select gg group by gg.x", 7);
        place("select ll group by aa", 7);
        place("select rr.x,count", 7);
        place("select gg.x,gg.h.z group by gg.h.z,gg.x", -1);
        place("select aa group by aa,bb,aa", 25);
        place("select aa group by gg.x,aa,gg.x", 27);
    }

    /** "What is met first, reading on, counts". */
    private static void metFirst() {
        // Items that aren't behind by come last of all.
        place("select aa,count where zz=1", 22);
        place("select aa,count where aa=1 group by zz", 36);
        place("select aa,count where aa=1 ?", 27);
        place("select aa,count where aa=1", 7);
        // A path when it has been read, a literal when it has.
        place("select zz.", 10);
        place("select zz.a ?", 7);
        place("select zz,?", 7);
        place("select ll,sum(cc),?", 14);
        place(WHERE + "cc=5 and ?", 19);
        place(WHERE + "cc=-", 20);
        place(WHERE + "aa='x\\q'", 21);
        place(WHERE + "aa='x", 21);
        place(WHERE + "aa='x' ?", 19);
        place(WHERE + "aa=9223372036854775808 ?", 19);
        place(WHERE + "aa=cc ?", 19);
        place(WHERE + "aa=rr.", 22);
        place(WHERE + "rr.x ?", 16);
        // The second path of by, the second time.
        place("select ? group by aa,aa", 7);
        place("select count group by aa,aa,?", 25);
        place("select count group by aa,?,aa", 25);
    }

    /** Each query has room for its own texts and literals. */
    private static void oneBehindTheOther() {
        StripedVault v = VaultKit.opened(VaultKit.vault("required text t;", "{t:'b'}"), 9, 9);
        for (int k = 0; k < 30; k++) {
            VaultKit.due("query " + k, VaultKit.query(v, "select t where t<'" + "c".repeat(255) + "'"), -1);
        }
        VaultKit.due("run", v.run(), 1);
    }

    /** "the query before stays". */
    private static void refusedChangesNothing() {
        StripedVault v = VaultKit.opened(VaultKit.vault("required text a;optional int b;", "{a:'x'}", "{a:'y',b:1}", "{a:'z',b:2}"), 9, 9);
        VaultKit.due("query", VaultKit.query(v, "select b where a in ('y','z') and b < 2"), -1);
        String[] wrong = {"", "select", "select a,a,a,a where a in ('p','q','r') and b > 7 and ?", "select count,b where b is null", " ".repeat(2001),
            "select count,a group by b", "select sum(b),sum(b),sum(a)"};
        for (String text : wrong) {
            VaultKit.due("refused: " + text, VaultKit.query(v, text) >= 0, true);
        }
        VaultKit.due("run", v.run(), 1);
        VaultKit.due("row", v.row(0), 1);
        VaultKit.due("answer", v.answer(0), 5);
        VaultKit.due("output", VaultKit.output(v), "{b:1}");
        VaultKit.due("refused", VaultKit.query(v, "select a where"), 14);
        VaultKit.due("the answer stays, too", v.row(0), 1);
        VaultKit.due("another one", VaultKit.query(v, "select a"), -1);
        VaultKit.due("run", v.run(), 3);
    }
}

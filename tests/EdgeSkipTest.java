import java.util.ArrayList;
import java.util.Arrays;
import java.util.List;
import java.util.Random;

/**
 * Promise 24, and 18, 19 with where: edges of what CAN be, and any conditions on any files, against what the document says,
 * worked out here in another way.
 */
public final class EdgeSkipTest {
    private static final String[] NAMES = {"a", "b", "c", "d", "e", "f"};
    /** As a footer tells them: int, optional int, optional long, text, optional text, optional bool. */
    private static final int[] FORMS = {3, 4, 7, 9, 10, 1};
    private static final String[] OPERATORS = {"=", "<>", "<", "<=", ">", ">="};
    private static final int[] CONTRARY = {1, 0, 5, 4, 3, 2};

    public static void main(String[] args) {
        another();
        noRun();
        noWhere();
        literalsAtTheEdges();
        listsAtTheEdges();
        columnsAtTheEdges();
        columnsWithoutValues();
        sizesOfDictionaries();
        dictionariesOfSeveralPages();
        stretchesOfSkippedGroups();
        for (int seed = 0; seed < 250; seed++) {
            anyFile(new Random(seed));
        }
        VaultKit.finish();
    }

    // What is told of a column: of a chunk or a page.

    private static final class Told {
        int rows;
        int nulls;
        Comparable<?> least;
        Comparable<?> greatest;
        List<Comparable<?>> dictionary;

        void add(Comparable<?> value) {
            rows++;
            if (value == null) {
                nulls++;
                return;
            }
            least = least == null || compare(value, least) < 0 ? value : least;
            greatest = greatest == null || compare(value, greatest) > 0 ? value : greatest;
        }
    }

    @SuppressWarnings({"unchecked", "rawtypes"})
    private static int compare(Comparable a, Comparable b) {
        return a.compareTo(b);
    }

    private static boolean holds(int operator, int order) {
        boolean[] answers = {order == 0, order != 0, order < 0, order <= 0, order > 0, order >= 0};
        return answers[operator];
    }

    /** A set of truths: TRUE, FALSE, UNKNOWN. */
    private record Truths(boolean yes, boolean no, boolean unknown) {
    }

    /** A condition; the words of it, its truth in a row, and which truths CAN be. */
    private abstract static class Condition {
        abstract String text();

        abstract Truths inRow(Comparable<?>[] row);

        abstract Truths canBe(Told[] told);

        abstract void columns(boolean[] asked);
    }

    private static final class NullTest extends Condition {
        int column;
        boolean turned;

        String text() {
            return NAMES[column] + (turned ? " is not null" : " is null");
        }

        Truths inRow(Comparable<?>[] row) {
            boolean yes = (row[column] == null) != turned;
            return new Truths(yes, !yes, false);
        }

        Truths canBe(Told[] told) {
            boolean some = told[column].nulls > 0;
            boolean others = told[column].nulls < told[column].rows;
            return turned ? new Truths(others, some, false) : new Truths(some, others, false);
        }

        void columns(boolean[] asked) {
            asked[column] = true;
        }
    }

    /** A comparison with a literal or another column, or a list of literals. */
    private static final class ValueTest extends Condition {
        int column;
        int operator;
        int other = -1;
        boolean list;
        List<Comparable<?>> literals = new ArrayList<>();

        String text() {
            if (list) {
                StringBuilder all = new StringBuilder();
                for (Comparable<?> literal : literals) {
                    all.append(all.length() == 0 ? "" : " , ").append(written(literal));
                }
                return NAMES[column] + " in (" + all + ")";
            }
            return NAMES[column] + OPERATORS[operator] + (other >= 0 ? NAMES[other] : written(literals.get(0)));
        }

        boolean listed(Comparable<?> value) {
            for (Comparable<?> literal : literals) {
                if (compare(value, literal) == 0) {
                    return true;
                }
            }
            return false;
        }

        Truths inRow(Comparable<?>[] row) {
            Comparable<?> value = row[column];
            Comparable<?> second = other >= 0 ? row[other] : literals.get(0);
            if (value == null || second == null) {
                return new Truths(false, false, true);
            }
            boolean yes = list ? listed(value) : holds(operator, compare(value, second));
            return new Truths(yes, !yes, false);
        }

        Truths canBe(Told[] all) {
            Told told = all[column];
            Told second = other >= 0 ? all[other] : told;
            boolean unknown = told.nulls > 0 || second.nulls > 0;
            if (told.nulls == told.rows || second.nulls == second.rows) {
                return new Truths(false, false, unknown);
            }
            if (list) {
                return new Truths(canBeListed(told), canBeUnlisted(told), unknown);
            }
            if (other >= 0) {
                return new Truths(canMeet(operator, told, second), canMeet(CONTRARY[operator], told, second), unknown);
            }
            return new Truths(canBe(operator, told), canBe(CONTRARY[operator], told), unknown);
        }

        private boolean mayBe(Told told, Comparable<?> literal) {
            return told.dictionary != null ? told.dictionary.contains(literal)
                    : compare(told.least, literal) <= 0 && compare(told.greatest, literal) >= 0;
        }

        private boolean canBeListed(Told told) {
            for (Comparable<?> literal : literals) {
                if (mayBe(told, literal)) {
                    return true;
                }
            }
            return false;
        }

        private boolean canBeUnlisted(Told told) {
            if (told.dictionary == null) {
                return compare(told.least, told.greatest) != 0 || !listed(told.least);
            }
            for (Comparable<?> value : told.dictionary) {
                if (!listed(value)) {
                    return true;
                }
            }
            return false;
        }

        private boolean canBe(int how, Told told) {
            Comparable<?> literal = literals.get(0);
            if (told.dictionary != null) {
                for (Comparable<?> value : told.dictionary) {
                    if (holds(how, compare(value, literal))) {
                        return true;
                    }
                }
                return false;
            }
            int low = compare(told.least, literal);
            int high = compare(told.greatest, literal);
            boolean[] answers = {low <= 0 && high >= 0, low != 0 || high != 0, low < 0, low <= 0, high > 0, high >= 0};
            return answers[how];
        }

        private static boolean canMeet(int how, Told one, Told two) {
            boolean same = compare(one.least, one.greatest) == 0 && compare(two.least, two.greatest) == 0 && compare(one.least, two.least) == 0;
            int low = compare(one.least, two.greatest);
            int high = compare(one.greatest, two.least);
            boolean[] answers = {!(high < 0) && !(low > 0), !same, low < 0, low <= 0, high > 0, high >= 0};
            return answers[how];
        }

        void columns(boolean[] asked) {
            asked[column] = true;
            if (other >= 0) {
                asked[other] = true;
            }
        }
    }

    /** not, and, or. */
    private static final class Join extends Condition {
        char how;
        Condition first;
        Condition second;

        String text() {
            return how == 'n' ? "not (" + first.text() + ")" : "(" + first.text() + ") " + (how == 'a' ? "and" : "or") + " (" + second.text() + ")";
        }

        Truths inRow(Comparable<?>[] row) {
            return of(first.inRow(row), second == null ? null : second.inRow(row));
        }

        Truths canBe(Told[] told) {
            return of(first.canBe(told), second == null ? null : second.canBe(told));
        }

        private Truths of(Truths a, Truths b) {
            if (how == 'n') {
                return new Truths(a.no, a.yes, a.unknown);
            }
            if (how == 'a') {
                return new Truths(a.yes && b.yes, a.no || b.no, a.unknown && (b.unknown || b.yes) || b.unknown && (a.unknown || a.yes));
            }
            return new Truths(a.yes || b.yes, a.no && b.no, a.unknown && (b.unknown || b.no) || b.unknown && (a.unknown || a.no));
        }

        void columns(boolean[] asked) {
            first.columns(asked);
            if (second != null) {
                second.columns(asked);
            }
        }
    }

    private static String written(Comparable<?> value) {
        return value instanceof String ? "'" + value + "'" : value.toString();
    }

    private static byte[] tell(Comparable<?> value) {
        if (value instanceof Boolean) {
            return VaultKit.cat((Boolean) value ? 1 : 0);
        }
        return value instanceof String ? VaultKit.sized(value) : VaultKit.varint(VaultKit.zigzag((Long) value));
    }

    private static byte[] plain(int column, List<Comparable<?>> values) {
        byte[] bytes = new byte[0];
        if (column == 5) {
            long[] bits = new long[values.size()];
            for (int k = 0; k < bits.length; k++) {
                bits[k] = (Boolean) values.get(k) ? 1 : 0;
            }
            return VaultKit.bits(1, bits);
        }
        for (Comparable<?> value : values) {
            byte[] one = value instanceof String ? VaultKit.sized(value) : VaultKit.low4((Long) value);
            bytes = VaultKit.cat(bytes, one, column == 2 ? VaultKit.low4((Long) value >> 32) : new byte[0]);
        }
        return bytes;
    }

    /** A page of some rows of a column; what is told of it comes into the list. */
    private static byte[] page(Random random, int column, Comparable<?>[] rows, List<Told> pages) {
        Told told = new Told();
        List<Comparable<?>> values = new ArrayList<>();
        long[] levels = new long[rows.length];
        for (int k = 0; k < rows.length; k++) {
            told.add(rows[k]);
            levels[k] = rows[k] == null ? 0 : 1;
            if (rows[k] != null) {
                values.add(rows[k]);
            }
        }
        byte[] body = FORMS[column] % 3 == 0 ? new byte[0] : VaultKit.sized(VaultKit.groups(1, levels));
        int coding = column == 5 || random.nextInt(3) == 0 ? 0 : column == 3 || column == 4 ? 3 : 2;
        if (coding == 0) {
            body = VaultKit.cat(body, plain(column, values));
        } else {
            told.dictionary = new ArrayList<>();
            for (Comparable<?> value : values) {
                if (!told.dictionary.contains(value) || random.nextInt(9) == 0) {
                    told.dictionary.add(value);
                }
            }
            if (told.dictionary.size() < values.size() && random.nextInt(3) == 0) {
                told.dictionary.add(random.nextInt(told.dictionary.size() + 1), any(random, column));
            }
            long[] numbers = new long[values.size()];
            for (int k = 0; k < numbers.length; k++) {
                numbers[k] = told.dictionary.indexOf(values.get(k));
            }
            body = VaultKit.cat(body, told.dictionary.size(), plain(column, told.dictionary), 6, numbers.length == 0 ? new byte[0] : VaultKit.groups(6, numbers));
        }
        pages.add(told);
        byte[] bounds = told.least == null ? new byte[0] : VaultKit.cat(tell(told.least), tell(told.greatest));
        return VaultKit.page(VaultKit.cat(told.rows, told.nulls, coding, bounds), body);
    }

    private static Comparable<?> any(Random random, int column) {
        String[] texts = {"", "a", "ab", "abc", "b", "ba", "c"};
        if (column == 5) {
            return random.nextBoolean();
        }
        return column == 3 || column == 4 ? texts[random.nextInt(7)] : (Comparable<?>) Long.valueOf(random.nextInt(7) - 3);
    }

    private static Condition anyCondition(Random random, int depth) {
        if (depth > 0 && random.nextInt(3) > 0) {
            Join join = new Join();
            join.how = "nao".charAt(random.nextInt(3));
            join.first = anyCondition(random, depth - 1);
            join.second = join.how == 'n' ? null : anyCondition(random, depth - 1);
            return join;
        }
        if (random.nextInt(5) == 0) {
            NullTest test = new NullTest();
            test.column = random.nextInt(6);
            test.turned = random.nextBoolean();
            return test;
        }
        ValueTest test = new ValueTest();
        test.column = random.nextInt(6);
        test.operator = random.nextInt(6);
        test.list = random.nextInt(4) == 0;
        int[][] alike = {{0, 1, 2}, {0, 1, 2}, {0, 1, 2}, {3, 4}, {3, 4}, {5}};
        if (!test.list && random.nextInt(3) == 0) {
            test.other = alike[test.column][random.nextInt(alike[test.column].length)];
        } else {
            for (int k = test.list ? 1 + random.nextInt(4) : 1; k > 0; k--) {
                test.literals.add(any(random, test.column));
            }
        }
        return test;
    }

    private static void anyFile(Random random) {
        int groups = 1 + random.nextInt(3);
        List<Comparable<?>[]> rows = new ArrayList<>();
        byte[] chunks = new byte[0];
        byte[] footer = new byte[0];
        Told[][] chunkTold = new Told[groups][6];
        List<List<List<Told>>> pageTold = new ArrayList<>();
        for (int g = 0; g < groups; g++) {
            int count = 1 + random.nextInt(8);
            Comparable<?>[][] values = new Comparable<?>[6][count];
            boolean alike = random.nextInt(3) == 0;
            for (int c = 0; c < 6; c++) {
                for (int k = 0; k < count; k++) {
                    boolean none = FORMS[c] % 3 == 1 && random.nextInt(3) == 0;
                    values[c][k] = none ? null : alike && k > 0 && values[c][k - 1] != null ? values[c][k - 1] : any(random, c);
                }
            }
            footer = VaultKit.cat(footer, count);
            pageTold.add(new ArrayList<>());
            for (int c = 0; c < 6; c++) {
                List<Told> pages = new ArrayList<>();
                byte[] chunk = new byte[0];
                chunkTold[g][c] = new Told();
                for (int from = 0; from < count;) {
                    int to = Math.min(count, from + 1 + random.nextInt(4));
                    chunk = VaultKit.cat(chunk, page(random, c, Arrays.copyOfRange(values[c], from, to), pages));
                    from = to;
                }
                for (Comparable<?> value : values[c]) {
                    chunkTold[g][c].add(value);
                }
                Told told = chunkTold[g][c];
                byte[] bounds = told.least == null ? new byte[0] : VaultKit.cat(tell(told.least), tell(told.greatest));
                footer = VaultKit.cat(footer, VaultKit.varint(chunk.length), pages.size(), told.rows, told.nulls, bounds);
                chunks = VaultKit.cat(chunks, chunk);
                pageTold.get(g).add(pages);
            }
            for (int k = 0; k < count; k++) {
                Comparable<?>[] row = new Comparable<?>[6];
                for (int c = 0; c < 6; c++) {
                    row[c] = values[c][k];
                }
                rows.add(row);
            }
        }
        byte[] fields = VaultKit.cat(6);
        for (int c = 0; c < 6; c++) {
            fields = VaultKit.cat(fields, FORMS[c], 0, 1, NAMES[c]);
        }
        StripedVault v = VaultKit.taken(VaultKit.frame(chunks, fields, rows.size(), groups, footer));
        VaultKit.due("open", v.open(), 0);
        for (int k = 0; k < 8; k++) {
            ask(v, anyCondition(random, random.nextInt(4)), rows, chunkTold, pageTold);
        }
    }

    private static void ask(StripedVault v, Condition condition, List<Comparable<?>[]> rows, Told[][] chunks, List<List<List<Told>>> pages) {
        String text = condition.text();
        VaultKit.due("query " + text, VaultKit.query(v, "select a where " + text), -1);
        int count = v.run();
        int found = 0;
        for (int k = 0; k < rows.size(); k++) {
            if (condition.inRow(rows.get(k)).yes) {
                VaultKit.due("row of " + text, v.row(found), k);
                found++;
            }
        }
        VaultKit.due("rows of " + text, count, found);
        boolean[] asked = new boolean[6];
        condition.columns(asked);
        int skippedGroups = 0;
        int skippedStretches = 0;
        for (int g = 0; g < chunks.length; g++) {
            if (!condition.canBe(chunks[g]).yes) {
                skippedGroups++;
                continue;
            }
            for (int from = 0; from < chunks[g][0].rows;) {
                Told[] here = new Told[6];
                int to = chunks[g][0].rows;
                for (int c = 0; c < 6; c++) {
                    int end = 0;
                    for (int p = 0; end <= from; p++) {
                        here[c] = pages.get(g).get(c).get(p);
                        end += here[c].rows;
                    }
                    to = asked[c] ? Math.min(to, end) : to;
                }
                skippedStretches += condition.canBe(here).yes ? 0 : 1;
                from = to;
            }
        }
        VaultKit.due("groups skipped by " + text, v.skipped(0), skippedGroups);
        VaultKit.due("stretches skipped by " + text, v.skipped(1), skippedStretches);
    }

    // Edges, one by one.

    private static void skips(StripedVault v, String condition, int groups, int stretches) {
        VaultKit.due("query " + condition, VaultKit.query(v, "select a where " + condition), -1);
        VaultKit.due("run " + condition, v.run() >= 0, true);
        VaultKit.due(condition + ": groups", v.skipped(0), groups);
        VaultKit.due(condition + ": stretches", v.skipped(1), stretches);
    }

    /** "NONE for another what". */
    private static void another() {
        StripedVault v = VaultKit.opened(VaultKit.vault("required int a;", "{a:1}", "{a:5}"), 1, 1);
        int[] others = {-1, 2, 3, Integer.MIN_VALUE, Integer.MAX_VALUE};
        for (int what : others) {
            VaultKit.due("skipped(" + what + ")", v.skipped(what), -1);
        }
        skips(v, "a = 5", 1, 0);
        for (int what : others) {
            VaultKit.due("skipped(" + what + ")", v.skipped(what), -1);
        }
        VaultKit.due("nothing open", new StripedVault().skipped(2), -1);
        VaultKit.due("nothing open", new StripedVault().skipped(0), 0);
        VaultKit.due("nothing open", new StripedVault().skipped(1), 0);
    }

    /** "0 if there was none since it was opened", "in the latest run that wasn't NONE". */
    private static void noRun() {
        StripedVault v = VaultKit.opened(VaultKit.vault("required int a;", "{a:1}", "{a:5}", "{a:9}", "{a:1}"), 1, 2);
        VaultKit.due("no run", v.skipped(0), 0);
        VaultKit.due("no run", v.skipped(1), 0);
        skips(v, "a = 9", 1, 1);
        VaultKit.due("query", VaultKit.query(v, "select a where a = 100"), -1);
        VaultKit.due("not run yet", v.skipped(0), 1);
        VaultKit.due("not run yet", v.skipped(1), 1);
        VaultKit.due("run", v.run(), 0);
        VaultKit.due("run", v.skipped(0), 2);
        VaultKit.due("run", v.skipped(1), 0);
        VaultKit.due("open", v.open(), 0);
        VaultKit.due("none since", v.skipped(0), 0);
        VaultKit.due("none since", v.skipped(1), 0);
        VaultKit.due("no query", v.run(), -1);
        VaultKit.due("none since", v.skipped(0), 0);
    }

    /** "or its query had no where". */
    private static void noWhere() {
        StripedVault v = VaultKit.opened(VaultKit.vault("required int a;", "{a:1}", "{a:5}", "{a:9}"), 1, 2);
        skips(v, "a = 5", 1, 1);
        String[] queries = {"select a", "select count", "select a group by a"};
        for (String query : queries) {
            VaultKit.due("query", VaultKit.query(v, query), -1);
            VaultKit.due("run", v.run() > 0, true);
            VaultKit.due("groups", v.skipped(0), 0);
            VaultKit.due("stretches", v.skipped(1), 0);
        }
        VaultKit.due("query", VaultKit.query(v, "select count where a = 5 group by a"), -1);
        VaultKit.due("run", v.run(), 1);
        VaultKit.due("groups", v.skipped(0), 1);
        VaultKit.due("stretches", v.skipped(1), 1);
    }

    /** A group of rows with LEAST 10 and GREATEST 20: = < <= > >= <> and their contraries, by the group and by its page. */
    private static void literalsAtTheEdges() {
        String[] values = {"9", "10", "11", "19", "20", "21"};
        // Of each operator, for these literals, whether it CAN be TRUE.
        String[] can = {"011110", "111111", "001111", "011111", "111100", "111110"};
        for (String type : new String[] {"int", "long"}) {
            for (int k = 0; k < 6; k++) {
                StripedVault v = VaultKit.opened(VaultKit.vault("required " + type + " a;required int z;", "{a:10,z:1}", "{a:20,z:2}"), 2, 2);
                for (int n = 0; n < 6; n++) {
                    skips(v, "a " + OPERATORS[k] + " " + values[n], can[k].charAt(n) == '1' ? 0 : 1, 0);
                    skips(v, "not a " + OPERATORS[k] + " " + values[n], can[CONTRARY[k]].charAt(n) == '1' ? 0 : 1, 0);
                }
            }
        }
        // LEAST and GREATEST the same.
        String[] one = {"010", "101", "001", "011", "100", "110"};
        for (int k = 0; k < 6; k++) {
            StripedVault v = VaultKit.opened(VaultKit.vault("required text a;", "{a:'m'}"), 1, 1);
            String[] texts = {"'l\\xff'", "'m'", "'m\\x00'"};
            for (int n = 0; n < 3; n++) {
                skips(v, "a " + OPERATORS[k] + " " + texts[n], one[k].charAt(n) == '1' ? 0 : 1, 0);
                skips(v, "not a " + OPERATORS[k] + " " + texts[n], one[CONTRARY[k]].charAt(n) == '1' ? 0 : 1, 0);
            }
        }
        // Whole numbers that lie next to each other: as if there were others between them.
        StripedVault v = VaultKit.opened(VaultKit.vault("required int a;", "{a:1}", "{a:2}"), 2, 2);
        skips(v, "a <> 1 and a <> 2", 0, 0);
        skips(v, "not a in (1, 2)", 0, 0);
        skips(v, "a > 1 and a < 2", 0, 0);
        v = VaultKit.opened(VaultKit.vault("required bool a;", "{a:false}", "{a:true}"), 2, 2);
        skips(v, "not a in (false, true)", 0, 0);
        skips(v, "a <> true and a <> false", 0, 0);
        skips(v, "a < false", 1, 0);
        skips(v, "a > true", 1, 0);
        skips(v, "a <= false", 0, 0);
    }

    private static void listsAtTheEdges() {
        StripedVault v = VaultKit.opened(VaultKit.vault("required int a;required int z;", "{a:10,z:1}", "{a:20,z:1}", "{a:30,z:1}", "{a:30,z:1}"), 2, 2);
        skips(v, "a in (9)", 2, 0);
        skips(v, "a in (10)", 1, 0);
        skips(v, "a in (20)", 1, 0);
        skips(v, "a in (21, 29, 31)", 2, 0);
        skips(v, "a in (21, 30)", 1, 0);
        skips(v, "not a in (10, 20)", 0, 0);
        skips(v, "not a in (30)", 1, 0);
        skips(v, "not a in (29, 31)", 0, 0);
        skips(v, "not a in (29, 30, 31)", 1, 0);
        skips(v, "not a in (10, 20, 30)", 1, 0);
    }

    /** a from 10 to 20, b from some number to another one: how they can meet. */
    private static void columnsAtTheEdges() {
        int[][] bounds = {{1, 9}, {1, 10}, {1, 15}, {10, 20}, {15, 16}, {20, 30}, {21, 30}, {1, 30}, {10, 10}, {20, 20}};
        for (int[] b : bounds) {
            StripedVault v = VaultKit.opened(VaultKit.vault("required int a;required long b;", "{a:10,b:" + b[0] + "}", "{a:20,b:" + b[1] + "}"), 2, 2);
            boolean[] can = {b[1] >= 10 && b[0] <= 20, true, 10 < b[1], 10 <= b[1], 20 > b[0], 20 >= b[0]};
            for (int k = 0; k < 6; k++) {
                skips(v, "a " + OPERATORS[k] + " b", can[k] ? 0 : 1, 0);
                skips(v, "not a " + OPERATORS[k] + " b", can[CONTRARY[k]] ? 0 : 1, 0);
            }
        }
        StripedVault v = VaultKit.opened(VaultKit.vault("required int a;required int b;required int c;", "{a:5,b:5,c:6}", "{a:5,b:5,c:6}"), 2, 2);
        skips(v, "a <> b", 1, 0);
        skips(v, "a = b", 0, 0);
        skips(v, "not a = b", 1, 0);
        skips(v, "a <> c", 0, 0);
        skips(v, "a = c", 1, 0);
        skips(v, "a >= c", 1, 0);
        skips(v, "a <= c", 0, 0);
        // Dictionaries mean nothing there: 1 and 9 of both never meet 5.
        byte[] page = VaultKit.page(VaultKit.cat(2, 0, 2, 2, 18), 2, VaultKit.low4(1), VaultKit.low4(9), 1, 3, 2);
        byte[] other = VaultKit.page(VaultKit.cat(2, 0, 2, 10, 10), 1, VaultKit.low4(5), 0, 4);
        v = VaultKit.taken(VaultKit.frame(VaultKit.cat(page, other), 2, 3, 0, 1, "a", 3, 0, 1, "b", 2, 1, 2,
                page.length, 1, 2, 0, 2, 18, other.length, 1, 2, 0, 10, 10));
        VaultKit.due("open", v.open(), 0);
        skips(v, "a = b", 0, 0);
        skips(v, "a = 5", 0, 1);
        skips(v, "b <> 5 or a = 5", 0, 1);
        skips(v, "a < b", 0, 0);
    }

    /** "only if some rows (of each column) have a value", "CAN be UNKNOWN if some rows (of one of both columns) have none". */
    private static void columnsWithoutValues() {
        StripedVault v = VaultKit.opened(VaultKit.vault("optional int a;optional int b;required int c;", "{c:1}", "{c:2}", "{b:1,c:1}", "{c:2}",
                "{a:1,c:5}", "{a:1,c:6}"), 2, 2);
        // Groups: a, b none at all; b once; a always.
        skips(v, "a is null", 1, 0);
        skips(v, "a is not null", 2, 0);
        skips(v, "b is null", 0, 0);
        skips(v, "b is not null", 2, 0);
        skips(v, "a = 1", 2, 0);
        skips(v, "not a = 1", 3, 0);
        skips(v, "a in (1)", 2, 0);
        skips(v, "not a in (1)", 3, 0);
        skips(v, "a = b", 3, 0);
        skips(v, "not a = b", 3, 0);
        skips(v, "b = c", 2, 0);
        skips(v, "c <> b", 2, 0);
        skips(v, "c <> a", 2, 0);
        skips(v, "not (a = 1 or b = 1)", 3, 0);
        skips(v, "not (b = 1 and c = 1)", 0, 0);
        skips(v, "b = 1 or c = 2", 1, 0);
    }

    /** "a DICTIONARY of at most 100 values, these": of 100 and of 101, also if some are there twice. */
    private static void sizesOfDictionaries() {
        for (int size = 99; size <= 102; size++) {
            for (int twice = 0; twice <= 1; twice++) {
                byte[] values = new byte[0];
                for (int k = 0; k < size; k++) {
                    values = VaultKit.cat(values, VaultKit.low4(twice == 1 && k > 1 ? 20 : 10 * k));
                }
                byte[] page = VaultKit.page(VaultKit.cat(VaultKit.varint(size), 0, 2, 0, 20), VaultKit.varint(size), values, 7,
                        VaultKit.same(7, 0, size - 1), VaultKit.same(7, 1, 1));
                StripedVault v = VaultKit.taken(VaultKit.frame(page, 1, 3, 0, 1, "a", VaultKit.varint(size), 1, VaultKit.varint(size),
                        VaultKit.varint(page.length), 1, VaultKit.varint(size), 0, 0, 20));
                VaultKit.due("open", v.open(), 0);
                int skipped = size <= 100 ? 1 : 0;
                skips(v, "a = 5", 0, skipped);
                skips(v, "a in (1, 2, 3)", 0, skipped);
                skips(v, "a = 10", 0, 0);
                skips(v, "a > 0 and a < 10 or a = 7", 0, 0);
            }
        }
    }

    /** Each page has its own dictionary. */
    private static void dictionariesOfSeveralPages() {
        byte[] chunk = new byte[0];
        for (int k = 0; k < 12; k++) {
            chunk = VaultKit.cat(chunk, VaultKit.page(VaultKit.cat(2, 0, 2, 0, VaultKit.varint(2L * (1 + k))), 2, VaultKit.low4(0), VaultKit.low4(1 + k), 1, 3, 2));
        }
        StripedVault v = VaultKit.taken(VaultKit.frame(chunk, 1, 3, 0, 1, "a", 24, 1, 24, VaultKit.varint(chunk.length), 12, 24, 0, 0, 24));
        VaultKit.due("open", v.open(), 0);
        for (int k = 1; k <= 12; k++) {
            skips(v, "a = " + k, 0, 11);
            skips(v, "a in (99, " + k + ")", 0, 11);
            skips(v, "not a in (0, " + k + ")", 0, 1);
        }
        skips(v, "a = 0", 0, 0);
        skips(v, "a > 6", 0, 6);
    }

    /** "STRETCHES of groups that were SKIPPED don't count". */
    private static void stretchesOfSkippedGroups() {
        StripedVault v = VaultKit.vault("required int a;required int b;");
        for (int k = 0; k < 12; k++) {
            VaultKit.due("record", VaultKit.record(v, "{a:" + k + ",b:" + k % 4 + "}"), -1);
        }
        VaultKit.opened(v, 1, 4);
        skips(v, "a = 5", 2, 3);
        skips(v, "a = 50", 3, 0);
        skips(v, "b = 2", 0, 9);
        skips(v, "a = 5 and b = 2", 2, 4);
        skips(v, "a = 5 or b = 2", 0, 8);
        VaultKit.opened(v, 2, 4);
        skips(v, "a = 5", 2, 1);
        skips(v, "b = 2", 0, 3);
        VaultKit.opened(v, 100, 4);
        skips(v, "a = 5", 2, 0);
        skips(v, "b = 2", 0, 0);
        VaultKit.opened(v, 100, 100);
        skips(v, "a = 5", 0, 0);
        VaultKit.opened(v, 1, 1);
        skips(v, "a = 5", 11, 0);
        skips(v, "b = 2", 9, 0);
    }
}

import java.util.ArrayList;
import java.util.LinkedHashMap;
import java.util.List;
import java.util.Map;
import java.util.Set;
import java.util.function.Consumer;
import java.util.function.Function;
import java.util.function.Supplier;

/** All promises: each call changes what the document says that it does, and nothing else of the state. */
public final class StateTest {
    /** What there is of an object, and how it is seen; what a look changes doesn't matter, each one has its own object. */
    private static final Map<String, Function<StripedVault, String>> PARTS = new LinkedHashMap<>();
    private static final Set<String> NOTHING = Set.of();

    private static final String SCHEMA = "required int a;optional text t;";
    private static final String OTHER_SCHEMA = "repeated bool a;";
    private static final String RECORD = "{a:9,t:'nine'}";
    private static final String QUERY = "select a where t is null";

    public static void main(String[] args) {
        fillParts();
        Map<String, Supplier<StripedVault>> states = new LinkedHashMap<>();
        states.put("new", StripedVault::new);
        for (String input : List.of(OTHER_SCHEMA, RECORD, QUERY, "?", "")) {
            states.put("with a schema alone, INPUT " + input, () -> withInput(VaultKit.vault(SCHEMA), input));
            states.put("refused, INPUT " + input, () -> withInput(refused(), input));
            states.put("open, INPUT " + input, () -> withInput(open(), input));
            states.put("records were asked for, INPUT " + input, () -> withInput(asked("select t where a > 1"), input));
            states.put("groups were asked for, INPUT " + input, () -> withInput(asked("select t,count group by t"), input));
        }
        for (Map.Entry<String, Supplier<StripedVault>> state : states.entrySet()) {
            whatOnlyTells(state.getKey(), state.getValue());
            whatIsRefused(state.getKey(), state.getValue());
            whatChanges(state.getKey(), state.getValue());
            whatUsesTheInputUp(state.getKey(), state.getValue());
        }
        changesThatAreSeen();
        objectsByThemselves();
        VaultKit.finish();
    }

    private static void fillParts() {
        PARTS.put("tape", v -> {
            int count = 60;
            while (count > 0 && !v.end(count)) {
                count--;
            }
            v.take();
            return VaultKit.hex(VaultKit.file(v));
        });
        PARTS.put("input", v -> {
            v.take();
            return VaultKit.hex(VaultKit.file(v));
        });
        PARTS.put("schema", v -> {
            v.clear();
            return whatIsWritten(v);
        });
        PARTS.put("records", v -> v.records() + whatIsWritten(v));
        PARTS.put("file", v -> VaultKit.hex(VaultKit.file(v)));
        PARTS.put("open", StateTest::whatIsOpen);
        PARTS.put("fault", v -> v.fault(0) + " " + v.fault(1) + " " + v.fault(2));
        PARTS.put("opens", StateTest::opensLeft);
        PARTS.put("query", v -> v.run() + " " + whatIsAnswered(v));
        PARTS.put("answer", StateTest::whatIsAnswered);
        PARTS.put("output", VaultKit::output);
    }

    /** Of an empty FILE, so that nothing is seen of the one before. */
    private static String whatIsWritten(StripedVault v) {
        v.end(0);
        v.take();
        return v.write(1000, 2000) + " " + VaultKit.hex(VaultKit.file(v));
    }

    private static String whatIsOpen(StripedVault v) {
        StringBuilder text = new StringBuilder();
        for (int what = 0; what < 5; what++) {
            text.append(v.opened(what)).append(' ');
        }
        for (int row = 0; v.show(row) >= 0; row++) {
            text.append(VaultKit.output(v));
        }
        return text.toString();
    }

    private static String opensLeft(StripedVault v) {
        int count = 0;
        while (count <= 100 && v.open() != 23) {
            count++;
        }
        return "" + count;
    }

    private static String whatIsAnswered(StripedVault v) {
        StringBuilder text = new StringBuilder();
        text.append(v.skipped(0)).append(' ').append(v.skipped(1));
        for (int k = -1; k < 6; k++) {
            text.append('\n').append(v.row(k)).append(' ').append(v.answer(k)).append(VaultKit.output(v));
            for (int item = -1; item < 3; item++) {
                text.append(' ').append(v.kind(k, item)).append(' ').append(v.value(k, item));
                for (int i = -1; i < 5; i++) {
                    text.append(' ').append(v.letter(k, item, i));
                }
            }
        }
        return text.toString();
    }

    private static StripedVault withInput(StripedVault v, String input) {
        VaultKit.input(v, input);
        v.feed(0x01020304, 5, 6, 7, 8);
        return v;
    }

    /** Nothing is open, the fault has a place, and there is a query and an answer of what was open. */
    private static StripedVault refused() {
        StripedVault v = asked("select a");
        v.write(2, 2);
        v.poke(5, 255);
        VaultKit.due("refused", v.open(), 7);
        return v;
    }

    /** What is open isn't what the FILE is, nor what the records are. */
    private static StripedVault open() {
        StripedVault v = VaultKit.vault(SCHEMA, "{a:1,t:'x'}", "{a:2}", "{a:3,t:'y'}", "{a:4,t:'x'}");
        VaultKit.opened(v, 1, 2);
        v.clear();
        VaultKit.record(v, "{a:5}");
        v.write(1, 1);
        VaultKit.record(v, "{a:6,t:'z'}");
        v.show(2);
        return v;
    }

    /** A query was run, and another one was read. */
    private static StripedVault asked(String query) {
        StripedVault v = open();
        VaultKit.due("query", VaultKit.query(v, query), -1);
        VaultKit.due("run", v.run() > 0, true);
        VaultKit.due("query", VaultKit.query(v, "select count,min(a) where t='x'"), -1);
        return v;
    }

    /** Of all parts, those that differ behind a call. */
    private static List<String> changed(Supplier<StripedVault> state, Consumer<StripedVault> call) {
        List<String> changed = new ArrayList<>();
        for (Map.Entry<String, Function<StripedVault, String>> part : PARTS.entrySet()) {
            StripedVault v = state.get();
            call.accept(v);
            if (!part.getValue().apply(v).equals(part.getValue().apply(state.get()))) {
                changed.add(part.getKey());
            }
        }
        return changed;
    }

    private static void dueAtMost(String what, Supplier<StripedVault> state, Consumer<StripedVault> call, Set<String> most) {
        for (String part : changed(state, call)) {
            VaultKit.due(what + " changes the " + part, most.contains(part), true);
        }
    }

    private static void whatOnlyTells(String name, Supplier<StripedVault> state) {
        dueAtMost(name + ": what only tells", state, v -> {
            for (int k = -2; k < 6; k++) {
                v.records();
                v.size();
                v.byteOf(k);
                v.fault(k);
                v.opened(k);
                v.row(k);
                v.skipped(k);
                v.output(k);
                for (int item = -1; item < 3; item++) {
                    v.kind(k, item);
                    v.value(k, item);
                    v.letter(k, item, k);
                }
            }
        }, NOTHING);
    }

    private static void whatIsRefused(String name, Supplier<StripedVault> state) {
        dueAtMost(name + ": what is refused", state, v -> {
            VaultKit.due("end", v.end(-1), false);
            VaultKit.due("end", v.end(21), false);
            VaultKit.due("write", v.write(0, 1), -1);
            VaultKit.due("write", v.write(1, 0), -1);
            VaultKit.due("write", v.write(1001, 1), -1);
            VaultKit.due("write", v.write(1, 2001), -1);
            VaultKit.due("poke", v.poke(-1, 1), false);
            VaultKit.due("poke", v.poke(v.size(), 1), false);
        }, NOTHING);
    }

    private static void whatChanges(String name, Supplier<StripedVault> state) {
        dueAtMost(name + ": nothing", state, v -> { }, NOTHING);
        dueAtMost(name + ": feed", state, v -> v.feed(0x11121314, 5, 6, 7, 8), Set.of("tape"));
        dueAtMost(name + ": end", state, v -> v.end(0), Set.of("tape", "input"));
        dueAtMost(name + ": clear", state, v -> v.clear(), Set.of("records"));
        dueAtMost(name + ": write", state, v -> v.write(1, 1), Set.of("file"));
        dueAtMost(name + ": take", state, v -> v.take(), Set.of("file", "input"));
        dueAtMost(name + ": poke", state, v -> v.poke(v.size() - 1, 77), Set.of("file"));
        dueAtMost(name + ": open", state, v -> v.open(), Set.of("open", "fault", "opens", "query", "answer"));
        dueAtMost(name + ": show", state, v -> v.show(0), Set.of("output"));
        dueAtMost(name + ": show of none", state, v -> v.show(-1), Set.of("output"));
        dueAtMost(name + ": run", state, v -> v.run(), Set.of("answer"));
        dueAtMost(name + ": answer", state, v -> v.answer(0), Set.of("output"));
        dueAtMost(name + ": answer of none", state, v -> v.answer(-1), Set.of("output"));
    }

    private static void whatUsesTheInputUp(String name, Supplier<StripedVault> state) {
        Set<String> input = Set.of("input");
        boolean good = state.get().schema() == -1;
        dueAtMost(name + ": schema", state, v -> v.schema(), good ? Set.of("input", "schema", "records") : input);
        good = state.get().record() == -1;
        dueAtMost(name + ": record", state, v -> v.record(), good ? Set.of("input", "records") : input);
        good = state.get().query() == -1;
        dueAtMost(name + ": query", state, v -> v.query(), good ? Set.of("input", "query") : input);
    }

    private static void dueExactly(String what, Supplier<StripedVault> state, Consumer<StripedVault> call, String... parts) {
        VaultKit.due(what, changed(state, call).toString(), List.of(parts).toString());
    }

    /** The parts above are seen: each call changes all that it should. */
    private static void changesThatAreSeen() {
        Supplier<StripedVault> record = () -> withInput(asked("select t where a > 1"), RECORD);
        Supplier<StripedVault> schema = () -> withInput(asked("select t where a > 1"), OTHER_SCHEMA);
        Supplier<StripedVault> query = () -> withInput(asked("select t where a > 1"), QUERY);
        dueExactly("feed", record, v -> v.feed(1, 2, 3, 4, 5), "tape");
        dueExactly("end", record, v -> v.end(3), "tape", "input");
        dueExactly("schema", schema, v -> v.schema(), "input", "schema", "records");
        dueExactly("schema of a record", record, v -> v.schema(), "input");
        dueExactly("record", record, v -> v.record(), "input", "records");
        dueExactly("record of a query", query, v -> v.record(), "input");
        dueExactly("clear", record, v -> v.clear(), "records");
        dueExactly("write", record, v -> v.write(2, 2), "file");
        dueExactly("take", record, v -> v.take(), "input", "file");
        dueExactly("poke", record, v -> v.poke(0, 1), "file");
        dueExactly("open", record, v -> v.open(), "open", "opens", "query", "answer");
        dueExactly("open", () -> withInput(refused(), ""), v -> v.open(), "opens");
        dueExactly("a FILE that is none", record, v -> {
            v.take();
            VaultKit.due("open", v.open(), 13);
        }, "input", "file", "open", "opens", "query", "answer");
        dueExactly("a page that is none", record, v -> {
            v.poke(5, 255);
            VaultKit.due("open", v.open(), 7);
        }, "file", "open", "fault", "opens", "query", "answer");
        dueExactly("show", record, v -> v.show(1), "output");
        dueExactly("show of none", record, v -> v.show(4), "output");
        dueExactly("query", query, v -> v.query(), "input", "query");
        dueExactly("query of a record", record, v -> v.query(), "input");
        dueExactly("run", record, v -> v.run(), "answer");
        dueExactly("answer", record, v -> v.answer(1), "output");
        dueExactly("answer of none", record, v -> v.answer(9), "output");
    }

    /** What is done with one object isn't seen by another one. */
    private static void objectsByThemselves() {
        Supplier<StripedVault> state = () -> withInput(asked("select t where a > 1"), RECORD);
        dueExactly("another object", state, v -> {
            StripedVault other = withInput(asked("select t,count group by t"), OTHER_SCHEMA);
            other.schema();
            other.take();
            other.open();
            refused();
        });
    }
}

import java.math.BigInteger;
import java.util.ArrayList;
import java.util.List;
import java.util.Set;

/** SCHEMA, RECORD and QUERY as texts, written anew: what they tell, or the place of what can't stand. */
final class ReadKit {
    static final class Stop extends RuntimeException {
        private static final long serialVersionUID = 1;
        final int place;

        Stop(int place) {
            super(null, null, false, false);
            this.place = place;
        }
    }

    /** An ITEM of a query. */
    static final class Item {
        String form = "";
        ModelKit.Field field;
        int place;
    }

    /** A step of a CONDITION. */
    static final class Step {
        String form = "";
        ModelKit.Field field;
        ModelKit.Field other;
        final List<Object> literals = new ArrayList<>();
        Step left;
        Step right;
    }

    static final class Query {
        final List<Item> items = new ArrayList<>();
        final List<ModelKit.Field> by = new ArrayList<>();
        boolean collects;
        Step where;
    }

    private static final Set<String> OWN = Set.of("select", "where", "group", "by", "and", "or", "not", "is", "null", "in", "true",
            "false", "count", "sum", "min", "max");

    private final String text;
    private int pos;
    private ModelKit.Field schema = new ModelKit.Field();
    private int steps;
    private int literals;

    private ReadKit(String text) {
        this.text = text;
    }

    static ModelKit.Field schema(String text) {
        ReadKit read = new ReadKit(text);
        read.fields(read.schema);
        read.schema.count();
        return read.schema;
    }

    static ModelKit.Node record(ModelKit.Field schema, String text) {
        ReadKit read = new ReadKit(text);
        ModelKit.Node node = read.node(schema);
        read.stopUnless(read.next() == -1);
        return node;
    }

    static Query query(ModelKit.Field schema, String text) {
        ReadKit read = new ReadKit(text);
        read.schema = schema;
        return read.query();
    }

    private void stopUnless(boolean good) {
        if (!good) {
            throw new Stop(pos);
        }
    }

    private static void stopUnless(boolean good, int place) {
        if (!good) {
            throw new Stop(place);
        }
    }

    private int here() {
        return pos < text.length() ? text.charAt(pos) : -1;
    }

    private int next() {
        while (here() == ' ' || here() == '\n') {
            pos++;
        }
        return here();
    }

    /** The word that stands here, which isn't taken; none: an empty one. */
    private String word() {
        next();
        int end = pos;
        while (end < text.length() && ("" + text.charAt(end)).matches(end == pos ? "[a-zA-Z]" : "[a-zA-Z0-9_]")) {
            end++;
        }
        return text.substring(pos, end);
    }

    private boolean takes(String word) {
        boolean here = word().equals(word);
        pos += here ? word.length() : 0;
        return here;
    }

    private void needs(char sign) {
        stopUnless(next() == sign);
        pos++;
    }

    private int oneOf(String... words) {
        for (int k = 0; k < words.length; k++) {
            if (takes(words[k])) {
                return k;
            }
        }
        throw new Stop(pos);
    }

    private void fields(ModelKit.Field group) {
        while (true) {
            int c = next();
            boolean some = !group.fields.isEmpty();
            if (some && group == schema && c == -1) {
                return;
            }
            if (some && group != schema && c == '}') {
                pos++;
                return;
            }
            int mode = oneOf("required", "optional", "repeated");
            int type = oneOf("bool", "int", "long", "text", "group");
            String name = word();
            boolean good = !name.isEmpty() && name.length() <= 16;
            for (ModelKit.Field other : group.fields) {
                good &= !other.name.equals(name);
            }
            stopUnless(good);
            ModelKit.Field field = group.add(mode, type, name);
            stopUnless(schema.all().size() <= 128 && schema.columns().size() <= 64);
            stopUnless(type != 4 || field.way().size() <= 16);
            pos += name.length();
            needs(type == 4 ? '{' : ';');
            if (type == 4) {
                fields(field);
            }
        }
    }

    private ModelKit.Node node(ModelKit.Field group) {
        ModelKit.Node node = new ModelKit.Node();
        List<ModelKit.Field> left = new ArrayList<>(group.fields);
        needs('{');
        boolean more = next() != '}';
        while (more) {
            String name = word();
            while (!left.isEmpty() && !left.get(0).name.equals(name)) {
                stopUnless(left.get(0).mode != 0);
                left.remove(0);
            }
            stopUnless(!left.isEmpty());
            pos += name.length();
            needs(':');
            ModelKit.Field field = left.remove(0);
            node.values.put(field, values(field));
            more = next() == ',';
            pos += more ? 1 : 0;
        }
        for (ModelKit.Field field : left) {
            next();
            stopUnless(field.mode != 0);
        }
        needs('}');
        return node;
    }

    private List<Object> values(ModelKit.Field field) {
        List<Object> values = new ArrayList<>();
        if (field.mode != 2) {
            values.add(value(field));
            return values;
        }
        needs('[');
        boolean more = next() != ']';
        while (more) {
            values.add(value(field));
            more = next() == ',';
            pos += more ? 1 : 0;
        }
        needs(']');
        return values;
    }

    private Object value(ModelKit.Field field) {
        int c = next();
        if (field.type == 4) {
            return node(field);
        }
        if (field.type == 0) {
            return (long) oneOf("false", "true");
        }
        if (field.type == 3) {
            stopUnless(c == '\'');
            return quoted();
        }
        stopUnless(c == '-' || c >= '0' && c <= '9');
        return number(field.type == 1 ? 32 : 64);
    }

    private long number(int bits) {
        int from = pos;
        pos += here() == '-' ? 1 : 0;
        int digits = pos;
        while (here() >= '0' && here() <= '9') {
            pos++;
        }
        stopUnless(pos > digits, pos == text.length() ? pos : from);
        String number = text.substring(from, pos);
        stopUnless(number.matches("0|-?[1-9][0-9]*"), from);
        stopUnless(new BigInteger(number).bitLength() < bits, from);
        return Long.parseLong(number);
    }

    private String quoted() {
        pos++;
        StringBuilder meant = new StringBuilder();
        while (here() != '\'') {
            stopUnless(here() >= 32 && here() <= 126 && meant.length() < 255);
            String rest = text.substring(pos);
            if (here() != '\\') {
                meant.append((char) here());
                pos++;
            } else if (rest.matches("(?s)\\\\['\\\\].*")) {
                meant.append(rest.charAt(1));
                pos += 2;
            } else if (rest.matches("(?s)\\\\x[0-9a-f]{2}.*")) {
                meant.append((char) Integer.parseInt(rest.substring(2, 4), 16));
                pos += 4;
            } else {
                throw new Stop(rest.matches("\\\\|\\\\x[0-9a-f]?") ? text.length() : pos);
            }
        }
        pos++;
        return meant.toString();
    }

    private Query query() {
        Query query = new Query();
        oneOf("select");
        do {
            next();
            stopUnless(query.items.size() < 16);
            query.items.add(item());
            query.collects |= !query.items.get(query.items.size() - 1).form.isEmpty();
        } while (takesComma());
        if (takes("where")) {
            query.where = condition(0);
        }
        if (takes("group")) {
            oneOf("by");
            query.collects = true;
            do {
                next();
                int place = pos;
                stopUnless(query.by.size() < 8);
                ModelKit.Field field = flat();
                stopUnless(!query.by.contains(field), place);
                query.by.add(field);
            } while (takesComma());
        }
        stopUnless(next() == -1);
        for (Item item : query.items) {
            stopUnless(!query.collects || !item.form.isEmpty() || query.by.contains(item.field), item.place);
        }
        return query;
    }

    private boolean takesComma() {
        boolean comma = next() == ',';
        pos += comma ? 1 : 0;
        return comma;
    }

    private Item item() {
        Item item = new Item();
        item.place = pos;
        if (Set.of("count", "sum", "min", "max").contains(word())) {
            item.form = word();
            pos += item.form.length();
            if (item.form.equals("count") && next() != '(') {
                return item;
            }
            needs('(');
            next();
            int place = pos;
            item.field = flat();
            stopUnless(!item.form.equals("sum") || isNumber(item.field), place);
            needs(')');
        } else {
            item.field = path();
        }
        return item;
    }

    private static boolean isNumber(ModelKit.Field field) {
        return field.type == 1 || field.type == 2;
    }

    private ModelKit.Field path() {
        next();
        int place = pos;
        ModelKit.Field field = schema;
        boolean more = true;
        while (more) {
            stopUnless(here() != ' ' && here() != '\n');
            String name = word();
            stopUnless(!name.isEmpty() && !OWN.contains(name));
            ModelKit.Field found = null;
            for (ModelKit.Field inside : field == null ? List.<ModelKit.Field>of() : field.fields) {
                found = inside.name.equals(name) ? inside : found;
            }
            field = found;
            pos += name.length();
            more = here() == '.';
            pos += more ? 1 : 0;
        }
        stopUnless(field != null, place);
        return field;
    }

    private ModelKit.Field flat() {
        next();
        int place = pos;
        ModelKit.Field field = path();
        stopUnless(field.r() == 0 && field.type != 4, place);
        return field;
    }

    private Step step(Step step, int place) {
        steps++;
        stopUnless(steps <= 64, place);
        return step;
    }

    private Step joined(String form, Step left, Step right) {
        Step step = new Step();
        step.form = form;
        step.left = left;
        step.right = right;
        return step;
    }

    private Step condition(int depth) {
        Step left = part(depth);
        while (word().equals("or")) {
            int place = pos;
            takes("or");
            left = step(joined("or", left, part(depth)), place);
        }
        return left;
    }

    private Step part(int depth) {
        Step left = test(depth);
        while (word().equals("and")) {
            int place = pos;
            takes("and");
            left = step(joined("and", left, test(depth)), place);
        }
        return left;
    }

    private Step test(int depth) {
        boolean bracket = next() == '(';
        int place = pos;
        if (bracket || word().equals("not")) {
            stopUnless(depth < 32);
            pos += bracket ? 1 : 3;
            if (!bracket) {
                return step(joined("not", test(depth + 1), null), place);
            }
            Step inside = condition(depth + 1);
            needs(')');
            return inside;
        }
        Step step = new Step();
        step.field = flat();
        if (takes("is")) {
            step.form = takes("not") ? "is not null" : "is null";
            oneOf("null");
        } else if (takes("in")) {
            step.form = "in";
            needs('(');
            do {
                step.literals.add(literal(step.field));
            } while (takesComma());
            needs(')');
        } else {
            compared(step);
        }
        return step(step, place);
    }

    private void compared(Step step) {
        next();
        String rest = text.substring(pos);
        for (String operator : List.of("=", "<>", "<=", ">=", "<", ">")) {
            if (step.form.isEmpty() && rest.startsWith(operator)) {
                step.form = operator;
            }
        }
        stopUnless(!step.form.isEmpty());
        pos += step.form.length();
        if (word().isEmpty() || Set.of("true", "false").contains(word())) {
            step.literals.add(literal(step.field));
            return;
        }
        int place = pos;
        step.other = flat();
        stopUnless(step.other.type == step.field.type || isNumber(step.other) && isNumber(step.field), place);
    }

    private Object literal(ModelKit.Field field) {
        int c = next();
        int place = pos;
        Object value;
        boolean fits;
        if (c == '\'') {
            value = quoted();
            fits = field.type == 3;
        } else if (c == '-' || c >= '0' && c <= '9') {
            value = number(64);
            fits = isNumber(field);
        } else {
            value = (long) oneOf("false", "true");
            fits = field.type == 0;
        }
        literals++;
        stopUnless(fits && literals <= 64, place);
        return value;
    }
}

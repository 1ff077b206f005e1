import java.util.ArrayList;
import java.util.LinkedHashMap;
import java.util.List;
import java.util.Map;

/** The ANSWER of a query, written anew, over records as trees. */
final class AskKit {
    /** Of each record of the ANSWER its row; if the query COLLECTS, of each GROUP the values of its items. */
    final List<Integer> rows = new ArrayList<>();
    final List<List<Object>> groups = new ArrayList<>();
    private final ReadKit.Query query;

    AskKit(ReadKit.Query query, List<ModelKit.Node> records) {
        this.query = query;
        Map<List<Object>, List<ModelKit.Node>> together = new LinkedHashMap<>();
        if (query.by.isEmpty()) {
            together.put(new ArrayList<>(), new ArrayList<>());
        }
        for (int row = 0; row < records.size(); row++) {
            ModelKit.Node record = records.get(row);
            if (query.where != null && !Boolean.TRUE.equals(truth(query.where, record))) {
                continue;
            }
            rows.add(row);
            List<Object> values = new ArrayList<>();
            for (ModelKit.Field field : query.by) {
                values.add(value(field, record));
            }
            together.computeIfAbsent(values, all -> new ArrayList<>()).add(record);
        }
        together.forEach((values, all) -> groups.add(items(values, all)));
    }

    private List<Object> items(List<Object> values, List<ModelKit.Node> records) {
        List<Object> items = new ArrayList<>();
        for (ReadKit.Item item : query.items) {
            if (item.form.isEmpty()) {
                items.add(query.by.contains(item.field) ? values.get(query.by.indexOf(item.field)) : null);
            } else {
                items.add(collected(item, records));
            }
        }
        return items;
    }

    private static Object collected(ReadKit.Item item, List<ModelKit.Node> records) {
        if (item.field == null) {
            return (long) records.size();
        }
        List<Object> values = new ArrayList<>();
        for (ModelKit.Node record : records) {
            if (value(item.field, record) != null) {
                values.add(value(item.field, record));
            }
        }
        if (item.form.equals("count")) {
            return (long) values.size();
        }
        if (values.isEmpty()) {
            return null;
        }
        if (!item.form.equals("sum")) {
            return item.form.equals("min") ? ModelKit.least(values) : ModelKit.greatest(values);
        }
        long sum = 0;
        for (Object value : values) {
            sum += (Long) value;
        }
        return sum;
    }

    /** Of a FLAT column; null if there is none. */
    private static Object value(ModelKit.Field column, ModelKit.Node record) {
        return ModelKit.entries(column, record).get(0).value;
    }

    /** TRUE, FALSE, or null for UNKNOWN. */
    private static Boolean truth(ReadKit.Step step, ModelKit.Node record) {
        if (step.form.equals("not")) {
            Boolean of = truth(step.left, record);
            return of == null ? null : (Boolean) !of;
        }
        if (step.form.equals("and") || step.form.equals("or")) {
            Boolean strong = step.form.equals("or");
            Boolean left = truth(step.left, record);
            Boolean right = truth(step.right, record);
            if (strong.equals(left) || strong.equals(right)) {
                return strong;
            }
            return left == null || right == null ? null : (Boolean) !strong;
        }
        Object value = value(step.field, record);
        if (step.form.startsWith("is")) {
            return (value == null) == step.form.equals("is null");
        }
        Object other = step.other == null ? step.literals.get(0) : value(step.other, record);
        if (value == null || other == null) {
            return null;
        }
        return step.form.equals("in") ? step.literals.contains(value) : compared(step.form, ModelKit.compare(value, other));
    }

    private static boolean compared(String operator, int order) {
        return operator.contains("=") && order == 0 || operator.contains("<") && order < 0 || operator.contains(">") && order > 0;
    }

    /** A record with the fields alone that are, or lie in, items, and groups around these. */
    String text(ModelKit.Field schema, ModelKit.Node record) {
        return ModelKit.text(schema, some(schema, record));
    }

    private ModelKit.Node some(ModelKit.Field group, ModelKit.Node node) {
        ModelKit.Node some = new ModelKit.Node();
        for (ModelKit.Field field : group.fields) {
            boolean whole = false;
            boolean around = false;
            for (ReadKit.Item item : query.items) {
                whole |= field.way().contains(item.field);
                around |= item.field != null && item.field.way().contains(field);
            }
            List<Object> values = new ArrayList<>();
            for (Object value : node.values.getOrDefault(field, List.of())) {
                values.add(whole || !around ? value : some(field, (ModelKit.Node) value));
            }
            if (whole || around) {
                some.values.put(field, values);
            }
        }
        return some;
    }
}

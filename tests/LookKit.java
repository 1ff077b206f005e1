import java.util.ArrayList;
import java.util.HashMap;
import java.util.List;
import java.util.Map;

/** OPENED, written anew: the first FAULT of a FILE and where it is, or the records that are in it. */
final class LookKit {
    private static final class Fault extends RuntimeException {
        private static final long serialVersionUID = 1;
        final int number;

        Fault(int number) {
            super(null, null, false, false);
            this.number = number;
        }
    }

    /** What the FOOTER tells of a chunk. */
    private static final class Told {
        long bytes;
        long pages;
        long entries;
        long nulls;
        Object least;
        Object greatest;
    }

    /** Bytes up to an end. */
    private static final class Reader {
        final byte[] bytes;
        int pos;
        final int end;

        Reader(byte[] bytes, int pos, int end) {
            this.bytes = bytes;
            this.pos = pos;
            this.end = end;
        }

        void need(long count) {
            fault(Long.compareUnsigned(count, end - pos) > 0, 1);
        }

        int one() {
            need(1);
            pos++;
            return bytes[pos - 1] & 255;
        }

        long varint() {
            long number = 0;
            for (int k = 0; k < 10; k++) {
                int b = one();
                fault(k == 9 && b > 1, 2);
                number |= (long) (b % 128) << 7 * k;
                if (b < 128) {
                    fault(b == 0 && k > 0, 2);
                    return number;
                }
            }
            throw new Fault(2);
        }

        long fixed(int count) {
            need(count);
            long number = 0;
            for (int k = 0; k < count; k++) {
                number += (long) one() << 8 * k;
            }
            return number;
        }

        String letters(long count) {
            need(count);
            pos += (int) count;
            return new String(ModelKit.part(bytes, pos - (int) count, pos), java.nio.charset.StandardCharsets.ISO_8859_1);
        }

        Reader inside(long count) {
            need(count);
            pos += (int) count;
            return new Reader(bytes, pos - (int) count, pos);
        }

        boolean bit(int from, int k) {
            return (bytes[from + k / 8] >> k % 8 & 1) == 1;
        }

        void noMore() {
            fault(pos < end, 6);
        }

        Object told(int type) {
            if (type == 3) {
                long count = varint();
                fault(Long.compareUnsigned(count, 255) > 0, 7);
                return letters(count);
            }
            if (type == 0) {
                int bool = one();
                fault(bool > 1, 7);
                return (long) bool;
            }
            long z = varint();
            long number = z % 2 == 0 ? z >>> 1 : -(z >>> 1) - 1;
            fault(type == 1 && (int) number != number, 7);
            return number;
        }

        long[] runs(int count, int width) {
            long[] numbers = new long[count];
            int done = 0;
            while (done < count) {
                long h = varint();
                long times = h >>> 1;
                fault(times == 0, 3);
                if (h % 2 == 0) {
                    fault(times > count - done, 4);
                    long number = fixed((width + 7) / 8);
                    fault(ModelKit.width(number) > width, 5);
                    for (int k = 0; k < times; k++) {
                        numbers[done] = number;
                        done++;
                    }
                } else {
                    fault(times > (count - done + 7) / 8, 4);
                    need(times * width);
                    int from = pos;
                    pos += (int) times * width;
                    for (int k = 0; k < times * 8; k++) {
                        long number = bits(from, k * width, width);
                        if (done < count) {
                            numbers[done] = number;
                            done++;
                        } else {
                            fault(number != 0, 5);
                        }
                    }
                }
            }
            noMore();
            return numbers;
        }

        long bits(int from, int bit, int width) {
            long number = 0;
            for (int k = 0; k < width; k++) {
                number |= bit(from, bit + k) ? 1L << k : 0;
            }
            return number;
        }

        long[] code(int due) {
            long m = varint();
            fault(Long.compareUnsigned(m, 2000) > 0, 4);
            long[] numbers = new long[(int) m];
            if (m > 0) {
                numbers[0] = (Long) told(2);
            }
            for (int first = 1; first < m; first += 64) {
                long least = (Long) told(2);
                int[] widths = new int[4];
                for (int part = 0; part < 4; part++) {
                    widths[part] = one();
                    fault(widths[part] > 64 || widths[part] > 0 && first + 16 * part >= m, 5);
                }
                for (int part = 0; part < 4; part++) {
                    need(2 * widths[part]);
                    for (int k = 0; k < 16; k++) {
                        long rest = bits(pos, k * widths[part], widths[part]);
                        int at = first + 16 * part + k;
                        if (at < m) {
                            numbers[at] = numbers[at - 1] + least + rest;
                        } else {
                            fault(rest != 0, 5);
                        }
                    }
                    pos += 2 * widths[part];
                }
            }
            noMore();
            fault(m != due, 4);
            return numbers;
        }
    }

    int fault;
    int group = -1;
    int column = -1;
    int page = -1;
    int groups;
    int pages;
    final ModelKit.Field schema = new ModelKit.Field();
    final List<String> rows = new ArrayList<>();

    private final byte[] file;
    private final List<Integer> rowsOfGroups = new ArrayList<>();
    private final List<List<Told>> told = new ArrayList<>();
    private int allEntries;
    private int allTexts;

    private static void fault(boolean bad, int number) {
        if (bad) {
            throw new Fault(number);
        }
    }

    LookKit(byte[] file) {
        this.file = file;
        try {
            look();
        } catch (Fault found) {
            fault = found.number;
            return;
        }
        group = -1;
        column = -1;
        page = -1;
    }

    private void look() {
        int size = file.length;
        fault(size < 16, 13);
        for (int k = 0; k < 4; k++) {
            fault(file[k] != "STRB".charAt(k) || file[size - 4 + k] != "STRB".charAt(k), 13);
        }
        long footer = new Reader(file, size - 12, size).fixed(4);
        fault(footer > size - 16, 13);
        int from = size - 12 - (int) footer;
        fault(new Reader(file, size - 8, size).fixed(4) != ModelKit.check(file, from, size - 12), 14);
        lookAtFooter(new Reader(file, from, size - 12));
        long bytes = 4;
        for (List<Told> chunks : told) {
            for (Told chunk : chunks) {
                fault(Long.compareUnsigned(chunk.bytes, 40000) > 0, 17);
                bytes += chunk.bytes;
            }
        }
        fault(bytes != from, 17);
        Reader chunks = new Reader(file, 4, from);
        for (group = 0; group < told.size(); group++) {
            lookAtGroup(chunks, rowsOfGroups.get(group), told.get(group));
        }
    }

    private void lookAtFooter(Reader in) {
        long fields = in.varint();
        fault(fields == 0 || Long.compareUnsigned(fields, 128) > 0, 15);
        List<ModelKit.Field> before = new ArrayList<>();
        for (int k = 0; k < fields; k++) {
            int kind = in.one();
            long around = in.varint();
            String name = in.letters(in.varint());
            fault(kind > 14, 15);
            before.add(field(before, kind, around, name));
        }
        for (ModelKit.Field field : before) {
            fault(field.type == 4 && field.fields.isEmpty(), 15);
        }
        long rows = in.varint();
        fault(Long.compareUnsigned(rows, 2000) > 0, 16);
        long count = in.varint();
        fault(Long.compareUnsigned(count, 500) > 0, 16);
        groups = (int) count;
        long sum = 0;
        for (int k = 0; k < groups; k++) {
            long here = in.varint();
            fault(here == 0 || Long.compareUnsigned(here, 2000) > 0, 16);
            rowsOfGroups.add((int) here);
            sum += here;
            List<Told> chunks = new ArrayList<>();
            for (ModelKit.Field field : schema.columns()) {
                chunks.add(chunk(in, field.type));
            }
            told.add(chunks);
        }
        fault(sum != rows, 16);
        in.noMore();
    }

    private ModelKit.Field field(List<ModelKit.Field> before, int kind, long around, String name) {
        ModelKit.Field itsGroup = null;
        ModelKit.Field last = before.isEmpty() ? schema : before.get(before.size() - 1);
        for (ModelKit.Field field = last; field != null; field = field.group) {
            if (field == schema ? around == 0 : field.type == 4 && before.indexOf(field) + 1 == around) {
                itsGroup = field;
            }
        }
        fault(itsGroup == null, 15);
        fault(!name.matches("[a-zA-Z][a-zA-Z0-9_]{0,15}"), 15);
        for (ModelKit.Field other : itsGroup.fields) {
            fault(other.name.equals(name), 15);
        }
        ModelKit.Field field = itsGroup.add(kind % 3, kind / 3, name);
        int deep = 0;
        for (ModelKit.Field one : field.way()) {
            deep += one.type == 4 ? 1 : 0;
        }
        fault(deep > 16 || schema.columns().size() > 64, 15);
        return field;
    }

    private static Told chunk(Reader in, int type) {
        Told told = new Told();
        told.bytes = in.varint();
        told.pages = in.varint();
        fault(told.pages == 0, 18);
        told.entries = in.varint();
        fault(Long.compareUnsigned(told.entries, 10000) > 0, 16);
        told.nulls = in.varint();
        fault(Long.compareUnsigned(told.nulls, told.entries) > 0, 7);
        if (told.nulls < told.entries) {
            told.least = in.told(type);
            told.greatest = in.told(type);
        }
        return told;
    }

    private void lookAtGroup(Reader in, int rowsHere, List<Told> chunks) {
        List<ModelKit.Field> columns = schema.columns();
        Map<ModelKit.Field, List<ModelKit.Entry>> all = new HashMap<>();
        for (column = 0; column < columns.size(); column++) {
            ModelKit.Field field = columns.get(column);
            Told chunk = chunks.get(column);
            Reader bytes = in.inside(chunk.bytes);
            List<ModelKit.Entry> entries = new ArrayList<>();
            for (page = 0; Long.compareUnsigned(page, chunk.pages) < 0; page++) {
                entries.addAll(lookAtPage(bytes, field));
                pages++;
            }
            page = -1;
            bytes.noMore();
            lookAtChunk(field, chunk, entries, rowsHere);
            if (column > 0) {
                fault(!together(columns.get(column - 1), all.get(columns.get(column - 1)), field, entries), 21);
            }
            all.put(field, entries);
        }
        Map<ModelKit.Field, List<List<ModelKit.Entry>>> byRows = new HashMap<>();
        all.forEach((field, entries) -> byRows.put(field, split(entries, 0)));
        for (int row = 0; row < rowsHere; row++) {
            Map<ModelKit.Field, List<ModelKit.Entry>> one = new HashMap<>();
            for (ModelKit.Field field : columns) {
                one.put(field, byRows.get(field).get(row));
            }
            rows.add(ModelKit.text(schema, assembled(schema, one)));
        }
    }

    private void lookAtChunk(ModelKit.Field field, Told chunk, List<ModelKit.Entry> entries, int rowsHere) {
        int begins = 0;
        for (ModelKit.Entry entry : entries) {
            begins += entry.rep == 0 ? 1 : 0;
        }
        List<Object> values = ModelKit.values(entries);
        fault(entries.size() != chunk.entries || begins != rowsHere, 16);
        fault(entries.size() - values.size() != chunk.nulls, 10);
        fault(!values.isEmpty() && !ModelKit.least(values).equals(chunk.least), 11);
        fault(!values.isEmpty() && !ModelKit.greatest(values).equals(chunk.greatest), 12);
    }

    private static boolean together(ModelKit.Field first, List<ModelKit.Entry> a, ModelKit.Field second, List<ModelKit.Entry> b) {
        ModelKit.Field around = null;
        for (ModelKit.Field field : second.way()) {
            around = field.type == 4 && first.way().contains(field) ? field : around;
        }
        return around == null || levels(around, a).equals(levels(around, b));
    }

    private static List<String> levels(ModelKit.Field around, List<ModelKit.Entry> entries) {
        List<String> levels = new ArrayList<>();
        for (ModelKit.Entry entry : entries) {
            if (entry.rep <= around.r()) {
                levels.add(entry.rep + " " + Math.min(entry.def, around.d()));
            }
        }
        return levels;
    }

    private List<ModelKit.Entry> lookAtPage(Reader chunk, ModelKit.Field field) {
        long entries = chunk.varint();
        fault(entries == 0, 3);
        fault(Long.compareUnsigned(entries, 1000) > 0, 4);
        long nulls = chunk.varint();
        fault(Long.compareUnsigned(nulls, entries) > 0, 7);
        int coding = chunk.one();
        fault(coding >= ModelKit.codings(field.type), 7);
        Object least = nulls < entries ? chunk.told(field.type) : null;
        Object greatest = nulls < entries ? chunk.told(field.type) : null;
        long size = chunk.varint();
        long check = chunk.fixed(4);
        Reader body = chunk.inside(size);
        fault(check != ModelKit.check(file, body.pos, body.end), 8);
        int count = (int) entries;
        long[] reps = levels(body, count, field.r());
        long[] defs = levels(body, count, field.d());
        int have = 0;
        for (long def : defs) {
            have += def == field.d() ? 1 : 0;
        }
        fault(count - have != nulls, 10);
        List<Object> values = values(body, field.type, coding, have);
        body.noMore();
        fault(have > 0 && !ModelKit.least(values).equals(least), 11);
        fault(have > 0 && !ModelKit.greatest(values).equals(greatest), 12);
        List<ModelKit.Entry> all = new ArrayList<>();
        int taken = 0;
        for (int k = 0; k < count; k++) {
            boolean has = defs[k] == field.d();
            all.add(new ModelKit.Entry((int) reps[k], (int) defs[k], has ? values.get(taken) : null));
            taken += has ? 1 : 0;
        }
        allEntries += count;
        allTexts += ModelKit.bytesOfTexts(all);
        fault(allEntries > 10000 || allTexts > 60000, 22);
        lookAtOrder(field, all);
        return all;
    }

    private static void lookAtOrder(ModelKit.Field field, List<ModelKit.Entry> entries) {
        fault(entries.get(0).rep != 0, 19);
        for (int k = 1; k < entries.size(); k++) {
            int rep = entries.get(k).rep;
            for (ModelKit.Field one : field.way()) {
                if (rep > 0 && one.mode == 2 && one.r() == rep) {
                    fault(entries.get(k).def < one.d() || entries.get(k - 1).def < one.d(), 20);
                }
            }
        }
    }

    private static long[] levels(Reader body, int count, int most) {
        if (most == 0) {
            return new long[count];
        }
        long[] levels = body.inside(body.varint()).runs(count, ModelKit.width(most));
        for (long level : levels) {
            fault(level > most, 9);
        }
        return levels;
    }

    private static List<Object> values(Reader in, int type, int coding, int count) {
        List<Object> values = new ArrayList<>();
        if (coding == 0) {
            return plain(in, type, count);
        }
        if (type == 0) {
            for (long bool : in.runs(count, 1)) {
                values.add(bool);
            }
            return values;
        }
        if (coding == ModelKit.codings(type) - 1) {
            return byDictionary(in, type, count);
        }
        if (type == 3) {
            return coding == 1 ? byLengths(in, count) : inParts(in, count);
        }
        for (long number : in.code(count)) {
            fault(type == 1 && number != (int) number, 7);
            values.add(number);
        }
        return values;
    }

    private static List<Object> plain(Reader in, int type, int count) {
        List<Object> values = new ArrayList<>();
        if (type == 0) {
            int bytes = (count + 7) / 8;
            in.need(bytes);
            for (int k = 0; k < 8 * bytes; k++) {
                long bool = in.bit(in.pos, k) ? 1 : 0;
                if (k < count) {
                    values.add(bool);
                } else {
                    fault(bool == 1, 5);
                }
            }
            in.pos += bytes;
            return values;
        }
        int bytes = 0;
        for (int k = 0; k < count; k++) {
            Object value = type == 1 ? (Object) (long) (int) in.fixed(4) : type == 2 ? (Object) in.fixed(8) : in.told(3);
            bytes += value instanceof String ? ((String) value).length() : 0;
            fault(bytes > 20000, 7);
            values.add(value);
        }
        return values;
    }

    private static List<Object> byLengths(Reader in, int count) {
        List<Object> values = new ArrayList<>();
        long[] lengths = in.inside(in.varint()).code(count);
        for (long length : lengths) {
            fault(length < 0 || length > 255, 7);
        }
        int bytes = 0;
        for (long length : lengths) {
            values.add(in.letters(length));
            bytes += (int) length;
            fault(bytes > 20000, 7);
        }
        return values;
    }

    private static List<Object> inParts(Reader in, int count) {
        List<Object> values = new ArrayList<>();
        long[] common = in.inside(in.varint()).code(count);
        long[] more = in.inside(in.varint()).code(count);
        String before = "";
        int bytes = 0;
        for (int k = 0; k < count; k++) {
            fault(common[k] < 0 || more[k] < 0 || common[k] > before.length() || more[k] > 255 || common[k] + more[k] > 255, 7);
            before = before.substring(0, (int) common[k]) + in.letters(more[k]);
            values.add(before);
            bytes += before.length();
            fault(bytes > 20000, 7);
        }
        return values;
    }

    private static List<Object> byDictionary(Reader in, int type, int count) {
        long d = in.varint();
        fault(Long.compareUnsigned(d, count) > 0, 4);
        List<Object> dictionary = plain(in, type, (int) d);
        int width = in.one();
        fault(width > 32, 5);
        List<Object> values = new ArrayList<>();
        int bytes = 0;
        for (long number : in.runs(count, width)) {
            fault(number >= d, 7);
            Object value = dictionary.get((int) number);
            values.add(value);
            bytes += value instanceof String ? ((String) value).length() : 0;
            fault(bytes > 20000, 7);
        }
        return values;
    }

    /** Entries, cut where one begins of which the REPETITION level isn't above another one. */
    private static List<List<ModelKit.Entry>> split(List<ModelKit.Entry> entries, int level) {
        List<List<ModelKit.Entry>> parts = new ArrayList<>();
        for (ModelKit.Entry entry : entries) {
            if (parts.isEmpty() || entry.rep <= level) {
                parts.add(new ArrayList<>());
            }
            parts.get(parts.size() - 1).add(entry);
        }
        return parts;
    }

    /** A record, or a value of a group, from the entries of the columns in it. */
    private static ModelKit.Node assembled(ModelKit.Field group, Map<ModelKit.Field, List<ModelKit.Entry>> entries) {
        ModelKit.Node node = new ModelKit.Node();
        for (ModelKit.Field field : group.fields) {
            List<ModelKit.Field> columns = field.type == 4 ? field.columns() : List.of(field);
            if (entries.get(columns.get(0)).get(0).def < field.d()) {
                continue;
            }
            List<Object> values = new ArrayList<>();
            int count = split(entries.get(columns.get(0)), field.r()).size();
            for (int k = 0; k < count; k++) {
                Map<ModelKit.Field, List<ModelKit.Entry>> inside = new HashMap<>();
                for (ModelKit.Field one : columns) {
                    inside.put(one, split(entries.get(one), field.r()).get(k));
                }
                values.add(field.type == 4 ? assembled(field, inside) : inside.get(field).get(0).value);
            }
            node.values.put(field, values);
        }
        return node;
    }
}

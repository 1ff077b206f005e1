import java.io.ByteArrayInputStream;
import java.io.DataInputStream;
import java.io.IOException;
import java.io.InputStream;
import java.nio.ByteBuffer;
import java.util.HashMap;
import java.util.HashSet;
import java.util.Map;
import java.util.Set;
import java.util.TreeMap;
import java.util.TreeSet;

/** Which methods of a class and of those inside it call which ones, as their class files tell. */
final class CallKit {
    /** How many bytes an instruction has, from 0 on; 0 where that is told by the instruction itself. */
    private static final String SIZES = "1111111111111111" + "2323322222111111" + "1111111111111111" + "1111112222211111"
            + "1111111111111111" + "1111111111111111" + "1111111111111111" + "1111111111111111" + "1111311111111111"
            + "1111111113333333" + "3333333332001111" + "1133333335532311" + "3311043355";

    private final Map<String, Set<String>> calls = new TreeMap<>();
    private final String name;
    private int[] tags;
    private Object[] pool;

    /** Of a class that was loaded from a file. */
    CallKit(Class<?> type) throws IOException {
        name = type.getName();
        read(type);
        for (Class<?> inside : type.getDeclaredClasses()) {
            read(inside);
        }
    }

    private void read(Class<?> type) throws IOException {
        try (InputStream in = type.getResourceAsStream("/" + type.getName() + ".class")) {
            DataInputStream data = new DataInputStream(new ByteArrayInputStream(in.readAllBytes()));
            data.skipBytes(8);
            readPool(data);
            data.skipBytes(6);
            data.skipBytes(2 * data.readUnsignedShort());
            readMembers(data, type.getName(), false);
            readMembers(data, type.getName(), true);
        }
    }

    private void readPool(DataInputStream data) throws IOException {
        int count = data.readUnsignedShort();
        tags = new int[count];
        pool = new Object[count];
        for (int k = 1; k < count; k++) {
            tags[k] = data.readUnsignedByte();
            if (tags[k] == 1) {
                pool[k] = data.readUTF();
            } else if (tags[k] == 7 || tags[k] == 8 || tags[k] == 16 || tags[k] == 19 || tags[k] == 20) {
                pool[k] = data.readUnsignedShort();
            } else if (tags[k] == 15) {
                data.skipBytes(3);
            } else if (tags[k] == 5 || tags[k] == 6) {
                data.skipBytes(8);
                k++;
            } else {
                pool[k] = new int[] {data.readUnsignedShort(), data.readUnsignedShort()};
            }
        }
    }

    private void readMembers(DataInputStream data, String owner, boolean methods) throws IOException {
        int count = data.readUnsignedShort();
        for (int k = 0; k < count; k++) {
            data.skipBytes(2);
            String member = owner + "." + pool[data.readUnsignedShort()] + pool[data.readUnsignedShort()];
            int attributes = data.readUnsignedShort();
            for (int a = 0; a < attributes; a++) {
                String attribute = (String) pool[data.readUnsignedShort()];
                byte[] bytes = new byte[data.readInt()];
                data.readFully(bytes);
                if (methods && attribute.equals("Code")) {
                    readCode(member, bytes);
                }
            }
        }
    }

    private void readCode(String member, byte[] attribute) {
        ByteBuffer code = ByteBuffer.wrap(attribute, 8, ByteBuffer.wrap(attribute).getInt(4)).slice();
        Set<String> called = new TreeSet<>();
        int at = 0;
        while (at < code.limit()) {
            int form = code.get(at) & 255;
            if (form >= 182 && form <= 185) {
                int[] method = (int[]) pool[code.getShort(at + 1) & 0xffff];
                String owner = ((String) pool[(int) pool[method[0]]]).replace('/', '.');
                int[] nameAndType = (int[]) pool[method[1]];
                if (owner.equals(name) || owner.startsWith(name + "$")) {
                    called.add(owner + "." + pool[nameAndType[0]] + pool[nameAndType[1]]);
                }
            }
            at += sizeAt(code, at, form);
        }
        calls.put(member, called);
    }

    private static int sizeAt(ByteBuffer code, int at, int form) {
        int operands = (at + 4) / 4 * 4;
        if (form == 170) {
            return operands - at + 12 + 4 * (code.getInt(operands + 8) - code.getInt(operands + 4) + 1);
        }
        if (form == 171) {
            return operands - at + 8 + 8 * code.getInt(operands + 4);
        }
        if (form == 196) {
            return (code.get(at + 1) & 255) == 132 ? 6 : 4;
        }
        return SIZES.charAt(form) - '0';
    }

    Set<String> methods() {
        return calls.keySet();
    }

    /** All that are called by a method, and by these, and so on. */
    private Set<String> reached(String method) {
        Set<String> seen = new HashSet<>();
        Set<String> left = new HashSet<>(calls.getOrDefault(method, Set.of()));
        while (!left.isEmpty()) {
            String next = left.iterator().next();
            left.remove(next);
            if (seen.add(next)) {
                left.addAll(calls.getOrDefault(next, Set.of()));
            }
        }
        return seen;
    }

    Set<String> recursive() {
        Set<String> all = new TreeSet<>();
        for (String method : calls.keySet()) {
            if (reached(method).contains(method)) {
                all.add(method);
            }
        }
        return all;
    }

    /** How many methods stand open at most, itself among them; those that call one another count as one. */
    int depthOf(String method) {
        return depthOf(method, new HashMap<>());
    }

    private int depthOf(String method, Map<String, Integer> known) {
        if (known.containsKey(method)) {
            return known.get(method);
        }
        Set<String> together = new HashSet<>(Set.of(method));
        for (String other : reached(method)) {
            if (reached(other).contains(method)) {
                together.add(other);
            }
        }
        int most = 0;
        for (String one : together) {
            for (String called : calls.getOrDefault(one, Set.of())) {
                most = together.contains(called) ? most : Math.max(most, depthOf(called, known));
            }
        }
        known.put(method, most + 1);
        return most + 1;
    }
}

import java.io.ByteArrayInputStream;
import java.io.DataInputStream;
import java.io.IOException;
import java.io.InputStream;
import java.util.ArrayList;
import java.util.HashMap;
import java.util.List;
import java.util.Map;
import java.util.Set;
import java.util.TreeMap;
import java.util.TreeSet;

/** Those rules of LANGUAGE.md that can be seen in the compiled class: the library, what is made where, how deep calls go. */
public final class RuleTest {
    private static final Check CHECK = new Check("RuleTest");

    private static final Set<String> LIBRARY = Set.of("java/lang/Object.<init>", "java/lang/String.length", "java/lang/String.charAt",
        "java/lang/String.isEmpty", "java/lang/String.equals", "java/lang/String.indexOf", "java/lang/Math.min", "java/lang/Math.max",
        "java/lang/Math.abs", "java/lang/Integer.bitCount", "java/lang/System.arraycopy", "java/util/Arrays.fill");

    // The bytes that follow each instruction; -1: it must not be there, -2: a switch, -3: wide.
    private static final int[] OPERANDS = new int[256];

    private static final int MOST_DEEP = 8;

    public static void main(String[] args) throws IOException {
        fillOperands();
        Map<String, Set<String>> calls = new TreeMap<>();
        List<String> names = new ArrayList<>();
        names.add("AngelTown");
        for (Class<?> c : AngelTown.class.getDeclaredClasses()) {
            names.add(c.getName());
        }
        for (String name : names) {
            new ClassFile(name).read(calls);
        }
        callsAreNotTooDeep(calls);
        recursionIsKnown(calls);
        CHECK.finish();
    }

    private static void fillOperands() {
        int[][] ranges = {{16, 16, 1}, {17, 17, 2}, {18, 18, 1}, {19, 20, 2}, {21, 25, 1}, {54, 58, 1}, {132, 132, 2}, {153, 168, 2}, {169, 169, 1},
            {170, 171, -2}, {178, 184, 2}, {185, 186, 4}, {187, 187, 2}, {188, 188, 1}, {189, 189, 2}, {192, 193, 2}, {196, 196, -3},
            {197, 197, 3}, {198, 199, 2}, {200, 201, 4}, {191, 191, -1}, {194, 195, -1}};
        for (int[] r : ranges) {
            for (int op = r[0]; op <= r[1]; op++) {
                OPERANDS[op] = r[2];
            }
        }
        OPERANDS[186] = -1;
    }

    /** Reads one compiled class and notes which own methods each of its methods calls. */
    private static final class ClassFile {
        private final String name;
        private final Map<Integer, String> texts = new HashMap<>();
        private final Map<Integer, Integer> classes = new HashMap<>();
        private final Map<Integer, int[]> pairs = new HashMap<>();

        ClassFile(String name) {
            this.name = name;
        }

        void read(Map<String, Set<String>> calls) throws IOException {
            byte[] bytes;
            try (InputStream in = AngelTown.class.getResourceAsStream("/" + name + ".class")) {
                bytes = in.readAllBytes();
            }
            DataInputStream in = new DataInputStream(new ByteArrayInputStream(bytes));
            in.readInt();
            in.readInt();
            readPool(in);
            in.skipBytes(6);
            in.skipBytes(2 * in.readUnsignedShort());
            for (int fields = in.readUnsignedShort(); fields > 0; fields--) {
                in.skipBytes(6);
                skipAttributes(in);
            }
            for (int methods = in.readUnsignedShort(); methods > 0; methods--) {
                in.skipBytes(2);
                String method = texts.get(in.readUnsignedShort());
                in.skipBytes(2);
                readMethod(in, method, calls);
            }
        }

        private void readPool(DataInputStream in) throws IOException {
            int count = in.readUnsignedShort();
            for (int i = 1; i < count; i++) {
                int tag = in.readUnsignedByte();
                if (tag == 1) {
                    texts.put(i, in.readUTF());
                } else if (tag == 7) {
                    classes.put(i, in.readUnsignedShort());
                } else if (tag == 9 || tag == 10 || tag == 11 || tag == 12) {
                    pairs.put(i, new int[] {in.readUnsignedShort(), in.readUnsignedShort()});
                } else {
                    in.skipBytes(tag == 8 || tag == 16 || tag == 19 || tag == 20 ? 2 : tag == 15 ? 3 : tag == 5 || tag == 6 ? 8 : 4);
                    i += tag == 5 || tag == 6 ? 1 : 0;
                }
            }
        }

        private static void skipAttributes(DataInputStream in) throws IOException {
            for (int n = in.readUnsignedShort(); n > 0; n--) {
                in.skipBytes(2);
                in.skipBytes(in.readInt());
            }
        }

        private void readMethod(DataInputStream in, String method, Map<String, Set<String>> calls) throws IOException {
            String whole = name + "." + method;
            for (int n = in.readUnsignedShort(); n > 0; n--) {
                String attribute = texts.get(in.readUnsignedShort());
                byte[] bytes = new byte[in.readInt()];
                in.readFully(bytes);
                if (attribute.equals("Code")) {
                    DataInputStream code = new DataInputStream(new ByteArrayInputStream(bytes));
                    code.skipBytes(4);
                    byte[] body = new byte[code.readInt()];
                    code.readFully(body);
                    CHECK.due("nothing is caught in " + whole, code.readUnsignedShort(), 0);
                    readCode(whole, body, calls.computeIfAbsent(whole, k -> new TreeSet<>()));
                }
            }
        }

        private static int number(byte[] body, int at, int bytes) {
            int number = 0;
            for (int i = 0; i < bytes; i++) {
                number = number << 8 | body[at + i] & 255;
            }
            return number;
        }

        private void readCode(String whole, byte[] body, Set<String> called) {
            boolean makes = whole.endsWith(".<init>") || whole.endsWith(".<clinit>");
            for (int at = 0; at < body.length; ) {
                int op = body[at] & 255;
                CHECK.due("instruction " + op + " in " + whole, OPERANDS[op] != -1, true);
                if (op == 187 || op == 188 || op == 189 || op == 197) {
                    CHECK.due("made in a constructor, not in " + whole, makes, true);
                }
                if (op >= 182 && op <= 185) {
                    note(whole, number(body, at + 1, 2), called);
                }
                at += 1 + operands(body, at, op);
            }
        }

        private static int operands(byte[] body, int at, int op) {
            if (op == 196) {
                return (body[at + 1] & 255) == 132 ? 5 : 3;
            }
            if (op != 170 && op != 171) {
                return Math.max(0, OPERANDS[op]);
            }
            int padding = 3 - at % 4;
            int start = at + 1 + padding;
            if (op == 171) {
                return padding + 8 + 8 * number(body, start + 4, 4);
            }
            return padding + 12 + 4 * (number(body, start + 8, 4) - number(body, start + 4, 4) + 1);
        }

        private void note(String whole, int index, Set<String> called) {
            int[] pair = pairs.get(index);
            String owner = texts.get(classes.get(pair[0]));
            String method = texts.get(pairs.get(pair[1])[0]);
            if (owner.startsWith("AngelTown")) {
                called.add(owner + "." + method);
            } else {
                boolean known = owner.startsWith("[") ? method.equals("clone") : LIBRARY.contains(owner + "." + method);
                CHECK.due(owner + "." + method + " in " + whole + " is of the library that is left", known, true);
            }
        }
    }

    private static void reach(Map<String, Set<String>> calls, String from, Set<String> seen) {
        for (String to : calls.getOrDefault(from, Set.of())) {
            if (seen.add(to)) {
                reach(calls, to, seen);
            }
        }
    }

    /** Methods that call one another count once each. */
    private static int depth(Map<String, Set<String>> calls, String from, Set<String> open) {
        int most = 0;
        open.add(from);
        for (String to : calls.getOrDefault(from, Set.of())) {
            if (!open.contains(to)) {
                most = Math.max(most, depth(calls, to, open));
            }
        }
        open.remove(from);
        return 1 + most;
    }

    private static void callsAreNotTooDeep(Map<String, Set<String>> calls) {
        for (String method : calls.keySet()) {
            int deep = depth(calls, method, new TreeSet<>());
            CHECK.due(method + " goes " + deep + " deep", deep <= MOST_DEEP, true);
        }
        CHECK.due("the graph is read: planned goes down to the law", depth(calls, "AngelTown.planned", new TreeSet<>()) >= 6, true);
    }

    /** Only these call themselves, each with the depth as an argument. */
    private static void recursionIsKnown(Map<String, Set<String>> calls) {
        Set<String> known = Set.of("AngelTown$Reader.readSteps", "AngelTown$Reader.readAgain", "AngelTown$Reader.readCondition",
            "AngelTown$Reader.readClause");
        for (String method : calls.keySet()) {
            Set<String> seen = new TreeSet<>();
            reach(calls, method, seen);
            CHECK.due(method + " calls itself", seen.contains(method), known.contains(method));
        }
    }
}

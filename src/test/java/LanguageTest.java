import java.io.ByteArrayInputStream;
import java.io.DataInputStream;
import java.io.IOException;
import java.io.InputStream;
import java.lang.reflect.Array;
import java.lang.reflect.Field;
import java.lang.reflect.Modifier;
import java.util.ArrayList;
import java.util.HashMap;
import java.util.HashSet;
import java.util.IdentityHashMap;
import java.util.List;
import java.util.Map;
import java.util.Set;
import java.util.TreeMap;

/**
 * What of LANGUAGE.md, and of the room that a run has, can be read from the compiled classes: which calls of the library there
 * are, that nothing is caught, how deep calls go, where objects and arrays are made, and how much a new object takes.
 */
public final class LanguageTest {
    private static final Set<String> LIBRARY = Set.of("java/lang/Object.<init>", "java/lang/Integer.bitCount", "java/lang/Math.max",
        "java/lang/Math.min", "java/lang/String.length", "java/lang/String.charAt", "java/lang/System.arraycopy", "java/util/Arrays.fill",
        "java/lang/IllegalStateException.<init>", "java/lang/IllegalArgumentException.<init>", "java/lang/IndexOutOfBoundsException.<init>",
        "java/util/NoSuchElementException.<init>");
    // The document: an object is used for at most 512 calls; a run could make an object by each call.
    private static final long CALLS = 512;
    private static final long MOST_OBJECTS = 600_000;
    private static final long MOST_PARTS = 7_300_000;
    // Bytes behind each opcode from 0 to 201; ? for those whose length is told by what follows.
    private static final String BEHIND = "0".repeat(16) + "12122" + "11111" + "0".repeat(28) + "11111" + "0".repeat(73) + "2" + "0".repeat(20)
        + "2".repeat(14) + "22" + "1" + "??" + "000000" + "2222" + "222" + "44" + "2" + "1" + "2" + "00" + "22" + "00" + "?" + "3" + "22" + "44";

    /** By method: the methods of the class that it calls. */
    private static final Map<String, Set<String>> CALLED = new TreeMap<>();

    public static void main(String[] args) throws IOException, IllegalAccessException {
        Check.is("opcodes", BEHIND.length(), 202);
        List<Class<?>> all = new ArrayList<>(List.of(TillTheBell.class.getDeclaredClasses()));
        all.add(TillTheBell.class);
        for (Class<?> c : all) {
            String file = c.getName() + ".class";
            try (InputStream in = LanguageTest.class.getResourceAsStream(file)) {
                new OneClass(new DataInputStream(new ByteArrayInputStream(in.readAllBytes()))).read();
            }
        }
        Check.yes("methods were read", CALLED.size() > 100);
        for (String method : CALLED.keySet()) {
            Check.yes("eight deep at most, none calling itself: " + method, depth(method, new HashSet<>()) <= 8);
        }
        theRoom();
        Check.end("LanguageTest");
    }

    private static int depth(String method, Set<String> above) {
        int most = 0;
        if (!above.add(method)) {
            return 1000;
        }
        for (String called : CALLED.getOrDefault(method, Set.of())) {
            most = Math.max(most, depth(called, above));
        }
        above.remove(method);
        return most + 1;
    }

    /** A class file, as far as the test has to read it. */
    private static final class OneClass {
        private final DataInputStream in;
        private final Map<Integer, int[]> pool = new HashMap<>();
        private final Map<Integer, String> texts = new HashMap<>();
        private String name;

        OneClass(DataInputStream in) {
            this.in = in;
        }

        void read() throws IOException {
            in.readLong();
            readPool();
            in.readShort();
            name = nameOf(in.readUnsignedShort());
            in.readShort();
            in.skipBytes(2 * in.readUnsignedShort());
            for (int i = in.readUnsignedShort(); i > 0; i--) {
                in.skipBytes(6);
                skipAttributes();
            }
            for (int i = in.readUnsignedShort(); i > 0; i--) {
                readMethod();
            }
        }

        private void readPool() throws IOException {
            int many = in.readUnsignedShort();
            for (int i = 1; i < many; i++) {
                int tag = in.readUnsignedByte();
                switch (tag) {
                    case 1: texts.put(i, in.readUTF()); break;
                    case 3: case 4: in.readInt(); break;
                    case 5: case 6: in.readLong(); i++; break;
                    case 7: case 8: case 16: case 19: case 20: pool.put(i, new int[] {in.readUnsignedShort()}); break;
                    case 15: in.skipBytes(3); break;
                    default: pool.put(i, new int[] {in.readUnsignedShort(), in.readUnsignedShort()});
                }
            }
        }

        private String nameOf(int ofClass) {
            return texts.get(pool.get(ofClass)[0]);
        }

        private String methodAt(int at) {
            int[] nameAndType = pool.get(pool.get(at)[1]);
            return nameOf(pool.get(at)[0]) + "." + texts.get(nameAndType[0]);
        }

        private void skipAttributes() throws IOException {
            for (int i = in.readUnsignedShort(); i > 0; i--) {
                in.readShort();
                in.skipBytes(in.readInt());
            }
        }

        private void readMethod() throws IOException {
            in.readShort();
            String method = name + "." + texts.get(in.readUnsignedShort());
            in.readShort();
            for (int i = in.readUnsignedShort(); i > 0; i--) {
                String attribute = texts.get(in.readUnsignedShort());
                int length = in.readInt();
                if (attribute.equals("Code")) {
                    in.readInt();
                    byte[] code = new byte[in.readInt()];
                    in.readFully(code);
                    Check.is("nothing is caught in " + method, in.readUnsignedShort(), 0);
                    skipAttributes();
                    readCode(method, code);
                } else {
                    in.skipBytes(length);
                }
            }
        }

        private void readCode(String method, byte[] code) {
            Set<String> called = CALLED.computeIfAbsent(method, m -> new HashSet<>());
            int at = 0;
            while (at < code.length) {
                int op = code[at] & 255;
                int two = at + 2 < code.length ? (code[at + 1] & 255) << 8 | code[at + 2] & 255 : 0;
                look(method, called, op, two);
                at += BEHIND.charAt(op) == '?' ? lengthOf(code, at) : 1 + BEHIND.charAt(op) - '0';
            }
            Check.is("read to its end: " + method, at, code.length);
        }

        private void look(String method, Set<String> called, int op, int two) {
            boolean making = method.endsWith("<init>");
            if (op >= 182 && op <= 185) {
                String callee = methodAt(two);
                if (callee.startsWith("TillTheBell")) {
                    called.add(callee);
                } else {
                    Check.yes(method + " calls what the language has: " + callee, LIBRARY.contains(callee));
                }
            }
            Check.yes("no lambda, no joined texts: " + method, op != 186);
            Check.yes("no locks: " + method, op != 194 && op != 195);
            Check.yes("rows are made with the object: " + method, making || op != 188 && op != 189 && op != 197);
            if (op == 187 && !making) {
                String made = nameOf(two);
                boolean thrown = made.endsWith("Exception");
                Check.yes(method + " makes " + made, thrown || method.equals("TillTheBell.day") && made.equals("TillTheBell$Draws"));
            }
        }

        /** Of switches and wide ones, the opcode counted. */
        private static int lengthOf(byte[] code, int at) {
            if ((code[at] & 255) == 196) {
                return (code[at + 1] & 255) == 132 ? 6 : 4;
            }
            int table = (at + 4) / 4 * 4;
            int first = fourAt(code, table + 4);
            int ways = (code[at] & 255) == 170 ? 8 + 4 * (fourAt(code, table + 8) - first + 1) : 4 + 8 * first;
            return table + 4 + ways - at;
        }

        private static int fourAt(byte[] code, int at) {
            return (code[at] & 255) << 24 | (code[at + 1] & 255) << 16 | (code[at + 2] & 255) << 8 | code[at + 3] & 255;
        }
    }

    // ---- the room

    private static long parts;

    private static void theRoom() throws IllegalAccessException {
        Map<Object, Boolean> seen = new IdentityHashMap<>();
        parts = 0;
        walk(new TillTheBell(), seen);
        long fresh = parts;
        Check.yes("objects of " + CALLS + " towns: " + seen.size(), seen.size() * CALLS <= MOST_OBJECTS / 2);
        Check.yes("fields and elements of " + CALLS + " towns: " + fresh, fresh * CALLS <= MOST_PARTS);
        TillTheBell x = Check.of("people 6;coins 0 9999;thing 0 1 2 3 4 5 6;thing 1 6 5 4 3 2 1;bell 9;");
        for (int i = 0; i < 4; i++) {
            x.tray(i, 3, 40);
            x.image(i % 3);
            x.day(i, 40);
            x.end(2, 0);
            x.bestShare();
            x.judge(i, 0);
            x.pour(i);
            x.restore(0);
        }
        seen.clear();
        parts = 0;
        walk(x, seen);
        Check.is("a used one has grown by nothing", parts, fresh);
    }

    private static void walk(Object o, Map<Object, Boolean> seen) throws IllegalAccessException {
        if (o == null || seen.put(o, true) != null) {
            return;
        }
        if (o.getClass().isArray()) {
            parts += Array.getLength(o);
            for (int i = 0; i < Array.getLength(o) && !o.getClass().getComponentType().isPrimitive(); i++) {
                walk(Array.get(o, i), seen);
            }
            return;
        }
        for (Field f : o.getClass().getDeclaredFields()) {
            if (!Modifier.isStatic(f.getModifiers())) {
                parts++;
                f.setAccessible(true);
                if (!f.getType().isPrimitive()) {
                    walk(f.get(o), seen);
                }
            }
        }
    }
}

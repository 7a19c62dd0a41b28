import java.io.DataInputStream;
import java.io.IOException;
import java.util.ArrayList;
import java.util.List;
import java.util.Map;
import java.util.Set;
import java.util.TreeMap;
import java.util.TreeSet;

/** Rules 8 and 11 of LANGUAGE.md, read from the compiled classes: how deep calls go, and which methods call themselves. */
public final class CallDepths {
    private static final int DEEPEST = 8;
    private static final int MOST_OPEN = 300;

    /** Which methods may call themselves, and how many of each can stand open at once: one for each LINE (12), and two. */
    private static final Map<String, Integer> RECURSIVE = Map.of(
        "MarkerWalks$Judge.weigh(II)I", 14, "MarkerWalks$Network.pairsAmong(II)I", 14, "MarkerWalks$Tree.grow(III)V", 14);

    private static final Map<String, Set<String>> CALLS = new TreeMap<>();
    private static int wrong;

    private static void fault(String text) {
        wrong++;
        System.out.println(text);
    }

    public static void main(String[] args) throws Exception {
        read(MarkerWalks.class);
        for (Class<?> inside : MarkerWalks.class.getDeclaredClasses()) {
            read(inside);
        }
        int deepest = 0;
        // no two methods call one another, so each of these stands in a chain of calls once, with its own levels
        int recursive = RECURSIVE.values().stream().mapToInt(Integer::intValue).sum();
        for (String method : CALLS.keySet()) {
            if (method.startsWith("MarkerWalks.")) {
                List<String> chain = longest(method, new ArrayList<>());
                deepest = Math.max(deepest, chain.size());
                if (chain.size() > DEEPEST) {
                    fault("calls go " + chain.size() + " deep: " + chain);
                }
                int open = chain.size() + recursive;
                if (open >= MOST_OPEN) {
                    fault(open + " calls stand open at once: " + chain);
                }
            }
        }
        if (deepest < 2) {
            fault("the calls of the compiled classes couldn't be read");
        }
        System.out.println(wrong == 0 ? "calls go " + deepest + " deep at most" : wrong + " faults");
        if (wrong != 0) {
            System.exit(1);
        }
    }

    /** The longest chain of calls from a method on; one that calls itself stands in it once. */
    private static List<String> longest(String method, List<String> open) {
        open.add(method);
        List<String> best = new ArrayList<>();
        for (String called : CALLS.getOrDefault(method, Set.of())) {
            if (called.equals(method)) {
                if (!RECURSIVE.containsKey(method)) {
                    fault("calls itself: " + method);
                }
            } else if (open.contains(called)) {
                fault("call one another: " + method + ", " + called);
            } else {
                List<String> chain = longest(called, open);
                best = chain.size() > best.size() ? chain : best;
            }
        }
        open.remove(open.size() - 1);
        best.add(0, method);
        return best;
    }

    private static void read(Class<?> c) throws IOException {
        try (DataInputStream in = new DataInputStream(c.getResourceAsStream("/" + c.getName() + ".class"))) {
            in.readLong();
            String[] names = constants(in);
            in.skipBytes(6);
            in.skipBytes(2 * in.readUnsignedShort());
            for (int fields = in.readUnsignedShort(); fields > 0; fields--) {
                in.skipBytes(6);
                skipAttributes(in);
            }
            for (int methods = in.readUnsignedShort(); methods > 0; methods--) {
                in.readUnsignedShort();
                String name = c.getName() + "." + names[in.readUnsignedShort()] + names[in.readUnsignedShort()];
                Set<String> called = new TreeSet<>();
                for (int attributes = in.readUnsignedShort(); attributes > 0; attributes--) {
                    String kind = names[in.readUnsignedShort()];
                    byte[] bytes = new byte[in.readInt()];
                    in.readFully(bytes);
                    if (kind.equals("Code")) {
                        addCalls(bytes, names, called);
                    }
                }
                CALLS.put(name, called);
            }
        }
    }

    private static void skipAttributes(DataInputStream in) throws IOException {
        for (int attributes = in.readUnsignedShort(); attributes > 0; attributes--) {
            in.readUnsignedShort();
            in.skipBytes(in.readInt());
        }
    }

    /** By number: texts as they are, and methods as class, name and types; the rest stays null. */
    private static String[] constants(DataInputStream in) throws IOException {
        int n = in.readUnsignedShort();
        int[] tag = new int[n];
        int[] first = new int[n];
        int[] second = new int[n];
        String[] text = new String[n];
        for (int i = 1; i < n; i++) {
            tag[i] = in.readUnsignedByte();
            switch (tag[i]) {
                case 1: text[i] = in.readUTF(); break;
                case 3: case 4: in.readInt(); break;
                case 5: case 6: in.readLong(); i++; break;
                case 7: case 8: case 16: case 19: case 20: first[i] = in.readUnsignedShort(); break;
                case 15: in.readUnsignedByte(); in.readUnsignedShort(); break;
                default: first[i] = in.readUnsignedShort(); second[i] = in.readUnsignedShort(); break;
            }
        }
        for (int i = 1; i < n; i++) {
            if (tag[i] == 10 || tag[i] == 11) {
                text[i] = text[first[first[i]]] + "." + text[first[second[i]]] + text[second[second[i]]];
            }
        }
        return text;
    }

    private static int number(byte[] bytes, int place, int many) {
        int v = 0;
        for (int i = 0; i < many; i++) {
            v = v << 8 | bytes[place + i] & 255;
        }
        return v;
    }

    private static void addCalls(byte[] code, String[] names, Set<String> called) {
        int start = 8;
        int end = start + number(code, 4, 4);
        for (int i = start; i < end; i += width(code, i, start)) {
            int act = code[i] & 255;
            String name = act >= 0xb6 && act <= 0xb9 ? names[number(code, i + 1, 2)] : null;
            if (name != null && name.startsWith("MarkerWalks")) {
                called.add(name);
            }
        }
    }

    /** How many bytes an instruction has. */
    private static int width(byte[] code, int i, int start) {
        int act = code[i] & 255;
        int padded = i + 4 - (i - start) % 4;
        if (act == 0xaa) {
            return padded - i + 12 + 4 * (number(code, padded + 8, 4) - number(code, padded + 4, 4) + 1);
        }
        if (act == 0xab) {
            return padded - i + 8 + 8 * number(code, padded + 4, 4);
        }
        if (act == 0xc4) {
            return (code[i + 1] & 255) == 0x84 ? 6 : 4;
        }
        if (act == 0x10 || act == 0x12 || act >= 0x15 && act <= 0x19 || act >= 0x36 && act <= 0x3a || act == 0xa9 || act == 0xbc) {
            return 2;
        }
        if (act == 0xb9 || act == 0xba || act == 0xc8 || act == 0xc9) {
            return 5;
        }
        boolean three = act == 0x11 || act == 0x13 || act == 0x14 || act == 0x84 || act >= 0x99 && act <= 0xa8
            || act >= 0xb2 && act <= 0xb8 || act == 0xbb || act == 0xbd || act == 0xc0 || act == 0xc1 || act == 0xc6 || act == 0xc7;
        return three ? 3 : act == 0xc5 ? 4 : 1;
    }
}

import java.io.DataInputStream;
import java.io.IOException;
import java.lang.management.ManagementFactory;
import java.lang.reflect.Array;
import java.lang.reflect.Constructor;
import java.lang.reflect.Field;
import java.lang.reflect.Method;
import java.lang.reflect.Modifier;
import java.nio.charset.StandardCharsets;
import java.nio.file.Files;
import java.nio.file.Path;
import java.util.ArrayList;
import java.util.Arrays;
import java.util.List;
import java.util.Set;
import java.util.TreeSet;
import java.util.regex.Matcher;
import java.util.regex.Pattern;

/** The face of the class and those rules of LANGUAGE.md that a machine can see; run from the project's folder. */
public final class LanguageRules {
    private static final List<String> FACE = List.of(
        "points(int)", "line(int,int,int)", "way(int,int)", "cut(int)", "ends(int,int)", "at(int,int)", "sides()",
        "pairing(int,int)", "needed()", "kernel(int)", "feed(long,int)", "network()", "begin(int,int)", "go(int)",
        "back()", "game(int)", "moved(int)", "moves(int)", "worth(int)", "reach()", "starts(int)", "tells(int)",
        "play(int,int,int)", "fight(int,int,int)", "tree(int)", "node(int)", "sheet(int,int,int)", "put(int,int,int)",
        "number(int,int)", "copy(int,int,int,int,int)", "degrees(int,int)", "walks(int,int)", "seed(int)", "image()",
        "restore()", "count(int)", "told(int)");
    private static final String[] FORBIDDEN = {
        "\\bthrow\\b", "\\btry\\b", "\\bcatch\\b", "\\bsynchronized\\b", "\\bassert\\b", "\\bprotected\\b", "->", "::",
        "\\bstatic\\s*\\{", "Exact\\b", "\\bpackage\\b", "\\bvolatile\\b", "\\bThread\\b", "\\bRandom\\b", "\\bdouble\\b",
        "currentTimeMillis", "nanoTime", "\\bObject\\b", "\\.equals\\(", "hashCode", "toString"};

    private static final String LIBRARY = "java/lang/Object\\.<init>|java/lang/System\\.arraycopy"
        + "|java/util/Arrays\\.(copyOf|copyOfRange|fill)|java/lang/(Integer|Long|Math)\\.(compare|max|min|abs|bitCount|floorDiv|floorMod"
        + "|lowestOneBit|highestOneBit|numberOfLeadingZeros|numberOfTrailingZeros)";

    private static final long CALLS = 512;
    private static final long MOST_OBJECTS = 600000;
    private static final long MOST_ELEMENTS = 7300000;

    private static int wrong;

    private static void fault(String text) {
        wrong++;
        System.out.println(text);
    }

    public static void main(String[] args) throws Exception {
        face();
        nestedClasses();
        source(Files.readString(Path.of("src/main/java/MarkerWalks.java"), StandardCharsets.US_ASCII));
        library(MarkerWalks.class);
        for (Class<?> inside : MarkerWalks.class.getDeclaredClasses()) {
            library(inside);
        }
        room();
        roomOfNewObjects();
        System.out.println(wrong == 0 ? "the rules are kept" : wrong + " rules are broken");
        if (wrong != 0) {
            System.exit(1);
        }
    }

    private static void face() {
        Class<?> c = MarkerWalks.class;
        if (!Modifier.isPublic(c.getModifiers()) || !Modifier.isFinal(c.getModifiers())) {
            fault("the class isn't public and final");
        }
        Set<String> there = new TreeSet<>();
        for (Method m : c.getDeclaredMethods()) {
            if (Modifier.isPrivate(m.getModifiers())) {
                continue;
            }
            if (!Modifier.isPublic(m.getModifiers()) || Modifier.isStatic(m.getModifiers()) || m.getReturnType() != int.class) {
                fault("not of the face: " + m);
            }
            StringBuilder text = new StringBuilder(m.getName()).append('(');
            for (Class<?> p : m.getParameterTypes()) {
                text.append(text.charAt(text.length() - 1) == '(' ? "" : ",").append(p.getName());
            }
            there.add(text.append(')').toString());
        }
        if (!there.equals(new TreeSet<>(FACE))) {
            fault("the face is " + there);
        }
        for (Field f : c.getDeclaredFields()) {
            if (!Modifier.isPrivate(f.getModifiers())) {
                fault("a field that isn't private: " + f);
            }
        }
        Constructor<?>[] constructors = c.getDeclaredConstructors();
        if (constructors.length != 1 || !Modifier.isPublic(constructors[0].getModifiers()) || constructors[0].getParameterCount() != 0) {
            fault("the constructors are " + Arrays.toString(constructors));
        }
    }

    private static void nestedClasses() {
        Class<?>[] inside = MarkerWalks.class.getDeclaredClasses();
        if (inside.length > 11) {
            fault("more than twelve classes");
        }
        checkMembers(MarkerWalks.class);
        for (Class<?> c : inside) {
            if (!Modifier.isStatic(c.getModifiers()) || Modifier.isPublic(c.getModifiers())) {
                fault("not static, or public: " + c);
            }
            checkMembers(c);
            for (Method m : c.getDeclaredMethods()) {
                for (String name : FACE) {
                    if (name.startsWith(m.getName() + "(")) {
                        fault("bears the name of a public method: " + m);
                    }
                }
            }
        }
    }

    private static void checkMembers(Class<?> c) {
        int fields = 0;
        for (Field f : c.getDeclaredFields()) {
            if (Modifier.isStatic(f.getModifiers()) && !Modifier.isFinal(f.getModifiers())) {
                fault("a static field that isn't final: " + f);
            }
            fields += Modifier.isStatic(f.getModifiers()) ? 0 : 1;
        }
        if (fields > 20) {
            fault("more than twenty fields: " + c);
        }
        for (Method m : c.getDeclaredMethods()) {
            if (m.getParameterCount() > 7) {
                fault("more than seven parameters: " + m);
            }
            boolean nameTaken = c == MarkerWalks.class && Modifier.isPrivate(m.getModifiers())
                && FACE.stream().anyMatch(name -> name.startsWith(m.getName() + "("));
            if (nameTaken) {
                fault("a private method bears the name of a public one: " + m);
            }
        }
    }

    private static void source(String text) {
        String code = text.replaceAll("(?s)/\\*.*?\\*/", " ").replaceAll("//[^\n]*", " ");
        for (String rule : FORBIDDEN) {
            Matcher found = Pattern.compile(rule).matcher(code);
            if (found.find()) {
                fault("the source has " + found.group());
            }
        }
        Matcher imports = Pattern.compile("import\\s+([\\w.*]+)").matcher(code);
        while (imports.find()) {
            if (!Set.of("java.util.Arrays", "java.util.ArrayList", "java.util.List").contains(imports.group(1))) {
                fault("imports " + imports.group(1));
            }
        }
        int start = 0;
        String[] lines = text.split("\n", -1);
        Pattern head = Pattern.compile("^ {4}(?: {4})?\\S.*\\) \\{$");
        for (int i = 0; i < lines.length; i++) {
            if (head.matcher(lines[i]).matches() && !lines[i].matches(".*\\b(if|for|while|switch)\\b.*")) {
                start = i;
            }
            if (lines[i].matches(" {4}(?: {4})?\\}") && i - start > 60) {
                fault("longer than sixty lines, from line " + (start + 1));
                start = i;
            }
        }
    }

    /** What a class calls stands in its table of constants; whatever isn't of this file must be of the rule's list. */
    private static void library(Class<?> c) throws IOException {
        try (DataInputStream in = new DataInputStream(c.getResourceAsStream("/" + c.getName() + ".class"))) {
            in.skipBytes(8);
            int n = in.readUnsignedShort();
            int[] tag = new int[n];
            int[] first = new int[n];
            int[] second = new int[n];
            String[] text = new String[n];
            for (int i = 1; i < n; i++) {
                tag[i] = in.readUnsignedByte();
                switch (tag[i]) {
                    case 1: text[i] = in.readUTF(); break;
                    case 3: case 4: in.readInt(); break;
                    case 5: case 6: in.readLong(); i++; break;
                    case 7: case 8: case 16: case 19: case 20: first[i] = in.readUnsignedShort(); break;
                    case 15: in.readUnsignedByte(); in.readUnsignedShort(); break;
                    default: first[i] = in.readUnsignedShort(); second[i] = in.readUnsignedShort(); break;
                }
            }
            for (int i = 1; i < n; i++) {
                if (tag[i] >= 9 && tag[i] <= 11) {
                    String owner = text[first[first[i]]];
                    String member = owner + "." + text[first[second[i]]];
                    if (!owner.startsWith("MarkerWalks") && !member.matches(LIBRARY)) {
                        fault("not of the library that is left: " + member);
                    }
                } else if (tag[i] == 17 || tag[i] == 18) {
                    fault("a call that is made as the program runs (a lambda, or texts joined by +): " + c);
                }
            }
        }
    }

    /** All calls of a run share one room, so no call may make objects: only what has been made with the object counts. */
    private static void room() {
        MarkerWalks x = new MarkerWalks();
        calls(x);
        com.sun.management.ThreadMXBean bean = (com.sun.management.ThreadMXBean) ManagementFactory.getThreadMXBean();
        long id = Thread.currentThread().getId();
        bean.getThreadAllocatedBytes(id);
        long before = bean.getThreadAllocatedBytes(id);
        for (int i = 0; i < 100; i++) {
            calls(x);
        }
        long made = bean.getThreadAllocatedBytes(id) - before;
        if (made > 2000) {
            fault("calls make objects: " + made + " bytes");
        }
    }

    /** The constructor is the dearest call: were each call of a run a new object, all of them still have to find room. */
    private static void roomOfNewObjects() throws Exception {
        long[] sum = new long[2];
        addUp(new MarkerWalks(), new ArrayList<>(), sum);
        if (sum[0] * CALLS > MOST_OBJECTS || sum[1] * CALLS > MOST_ELEMENTS) {
            fault("an object is made of " + sum[0] + " objects with " + sum[1] + " fields and elements");
        }
    }

    /** First how many objects and arrays, then how many fields and elements these have. */
    private static void addUp(Object o, List<Object> seen, long[] sum) throws Exception {
        if (o == null || seen.stream().anyMatch(s -> s == o)) {
            return;
        }
        seen.add(o);
        sum[0]++;
        if (o.getClass().isArray()) {
            sum[1] += Array.getLength(o);
            for (int i = 0; i < Array.getLength(o) && !o.getClass().getComponentType().isPrimitive(); i++) {
                addUp(Array.get(o, i), seen, sum);
            }
            return;
        }
        for (Field f : o.getClass().getDeclaredFields()) {
            if (!Modifier.isStatic(f.getModifiers())) {
                sum[1]++;
                f.setAccessible(true);
                if (!f.getType().isPrimitive()) {
                    addUp(f.get(o), seen, sum);
                }
            }
        }
    }

    private static void calls(MarkerWalks x) {
        x.points(10);
        for (int i = 0; i < 12; i++) {
            x.line(i % 10, (i * 3 + 1) % 10, i % 3);
        }
        x.feed(0x622D61L, 3);
        x.network();
        x.points(5);
        for (int i = 0; i < 12; i++) {
            x.line(i % 5, (i + 1 + i / 5) % 5, i % 3);
        }
        x.needed();
        x.sides();
        x.kernel(-1);
        x.pairing(31, 1);
        x.image();
        x.restore();
        for (int rule = 0; rule < 5; rule++) {
            x.starts(rule);
            x.begin(rule, 0);
            x.reach();
            x.worth(0);
            x.tree(0);
            x.node(1);
            x.fight(7654, 4321, 0);
            x.sheet(0, 8, 12);
            x.degrees(0, 1);
            x.walks(0, 1);
            x.copy(0, 0, 0, 1, 4);
            x.play(5, 7, 3);
            x.tells(4);
            x.back();
            x.told(9);
        }
    }
}

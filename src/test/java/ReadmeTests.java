import java.io.IOException;
import java.lang.reflect.Method;
import java.lang.reflect.Modifier;
import java.nio.charset.StandardCharsets;
import java.nio.file.Files;
import java.nio.file.Path;
import java.util.ArrayList;
import java.util.Comparator;
import java.util.List;
import java.util.Set;
import java.util.TreeSet;
import java.util.regex.Matcher;
import java.util.regex.Pattern;
import java.util.stream.Stream;

/** What README.md shows of the class's use compiles and answers as README.md says; run from the project's folder. */
public final class ReadmeTests {
    private static final Path CLASS_FILE = Path.of("src/main/java/MarkerWalks.java");
    private static final String NEW_OBJECT = "MarkerWalks x = new MarkerWalks();";
    private static final Pattern ROW = Pattern.compile("x\\.(\\w+)\\((.*)\\); +// (-?\\d+): \\S.*");
    private static final Pattern PROGRAM = Pattern.compile("public final class (\\w+) \\{");

    /** A part of README.md between two fences, with the row where it begins. */
    private record Part(String kind, int place, List<String> rows) {
        String text() {
            return String.join("\n", rows) + "\n";
        }
    }

    private static int wrong;

    private static void fault(String text) {
        wrong++;
        System.out.println(text);
    }

    public static void main(String[] args) throws Exception {
        List<Part> parts = parts(Files.readAllLines(Path.of("README.md"), StandardCharsets.US_ASCII));
        Path room = Files.createTempDirectory("readme");
        try {
            program(parts, room);
            rows(parts, room);
        } finally {
            remove(room);
        }
        howToTest(parts);
        System.out.println(wrong == 0 ? "README.md says what is so" : wrong + " faults in README.md");
        if (wrong != 0) {
            System.exit(1);
        }
    }

    private static List<Part> parts(List<String> lines) {
        List<Part> parts = new ArrayList<>();
        Part open = null;
        for (int i = 0; i < lines.size(); i++) {
            String line = lines.get(i);
            if (!line.startsWith("```")) {
                if (open != null) {
                    open.rows.add(line);
                }
            } else if (open == null) {
                open = new Part(line.substring(3), i + 1, new ArrayList<>());
            } else {
                parts.add(open);
                open = null;
            }
        }
        if (open != null) {
            fault("the part that begins in row " + open.place + " has no end");
        }
        return parts;
    }

    private static boolean isProgram(Part part) {
        return part.kind.equals("java") && !part.rows.isEmpty() && PROGRAM.matcher(part.rows.get(0)).matches();
    }

    /** The program, the commands behind it and what it prints stand one behind another; the commands are run as they stand. */
    private static void program(List<Part> parts, Path room) throws Exception {
        int programs = 0;
        for (int i = 0; i + 2 < parts.size(); i++) {
            if (!isProgram(parts.get(i))) {
                continue;
            }
            programs++;
            Part commands = parts.get(i + 1);
            Part printed = parts.get(i + 2);
            if (!commands.kind.equals("sh") || !printed.kind.equals("text")) {
                fault("behind the program in row " + parts.get(i).place + " there are no commands, or not what it prints");
                continue;
            }
            Matcher head = PROGRAM.matcher(parts.get(i).rows.get(0));
            head.matches();
            Path folder = Files.createDirectories(room.resolve("program" + programs));
            Files.createDirectories(folder.resolve(CLASS_FILE).getParent());
            Files.copy(CLASS_FILE, folder.resolve(CLASS_FILE));
            Files.writeString(folder.resolve(head.group(1) + ".java"), parts.get(i).text());
            String got = run(folder, "sh", "-e", "-c", commands.text());
            if (!got.equals(printed.text())) {
                fault("the program in row " + parts.get(i).place + " prints\n" + got + "due is\n" + printed.text());
            }
        }
        if (programs == 0) {
            fault("README.md shows no program");
        }
    }

    /** Each part of rows twice: as it stands, so that it compiles for a reader, too, and with each answer asked for. */
    private static void rows(List<Part> parts, Path room) throws Exception {
        StringBuilder asStands = new StringBuilder();
        StringBuilder asked = new StringBuilder();
        Set<String> shown = new TreeSet<>();
        for (Part part : parts) {
            if (!part.kind.equals("java") || isProgram(part)) {
                continue;
            }
            if (part.rows.isEmpty() || !part.rows.get(0).equals(NEW_OBJECT)) {
                fault("row " + part.place + ": a part that doesn't begin with a new object");
                continue;
            }
            asStands.append("{\n").append(part.text()).append("}\n");
            asked.append("{ ").append(NEW_OBJECT).append("\n").append(askedRows(part, shown)).append("}\n");
        }
        everyCallIn(shown);
        String source = "public final class Rows {\n"
            + "static int wrong;\n"
            + "static void due(int row, int got, int want) { if (got != want) { wrong++;"
            + " System.out.println(\"README.md, row \" + row + \": answered \" + got + \", said is \" + want); } }\n"
            + "static void asStands() {\n" + asStands + "}\n"
            + "public static void main(String[] args) {\nasStands();\n" + asked
            + "System.out.println(wrong == 0 ? \"as said\" : \"not as said\");\n}\n}\n";
        Path file = room.resolve("Rows.java");
        Files.writeString(file, source);
        Path out = room.resolve("rows");
        String compiled = run(Path.of("."), "javac", "--release", "17", "-d", out.toString(), CLASS_FILE.toString(), file.toString());
        if (!compiled.isEmpty()) {
            fault(compiled);
            return;
        }
        String got = run(Path.of("."), "java", "-cp", out.toString(), "Rows");
        if (!got.equals("as said\n")) {
            fault(got);
        }
    }

    private static String askedRows(Part part, Set<String> shown) {
        StringBuilder asked = new StringBuilder();
        for (int i = 1; i < part.rows.size(); i++) {
            int place = part.place + i + 1;
            Matcher row = ROW.matcher(part.rows.get(i));
            if (!row.matches()) {
                fault("README.md, row " + place + ": no call with its answer: " + part.rows.get(i));
                continue;
            }
            shown.add(row.group(1));
            asked.append("due(").append(place).append(", x.").append(row.group(1)).append("(").append(row.group(2)).append("), ")
                .append(row.group(3)).append(");\n");
        }
        return asked.toString();
    }

    private static void everyCallIn(Set<String> shown) {
        for (Method m : MarkerWalks.class.getDeclaredMethods()) {
            if (Modifier.isPublic(m.getModifiers()) && !shown.contains(m.getName())) {
                fault("README.md doesn't show how to use " + m.getName());
            }
        }
    }

    /** The script runs this test, so it can only be asked for, not run, here. */
    private static void howToTest(List<Part> parts) {
        boolean told = parts.stream().anyMatch(part -> part.kind.equals("sh") && part.text().equals(".ci/run\n"));
        if (!told || !Files.isExecutable(Path.of(".ci/run"))) {
            fault("README.md doesn't tell how the tests are run, or it can't be run so");
        }
        try (Stream<Path> tests = Files.list(Path.of("src/test/java"))) {
            String text = Files.readString(Path.of("README.md"));
            tests.map(path -> path.getFileName().toString().replace(".java", ""))
                .filter(name -> !text.contains("- `" + name + "`: "))
                .forEach(name -> fault("README.md doesn't tell what " + name + " tests"));
        } catch (IOException e) {
            fault("README.md or the tests can't be read: " + e);
        }
    }

    /** What is printed as an error is handed on unread: the Java machine may tell there of its own settings. */
    private static String run(Path folder, String... command) throws Exception {
        Process process = new ProcessBuilder(command).directory(folder.toFile()).redirectError(ProcessBuilder.Redirect.INHERIT).start();
        process.getOutputStream().close();
        String printed = new String(process.getInputStream().readAllBytes(), StandardCharsets.UTF_8);
        int code = process.waitFor();
        return code == 0 ? printed : printed + "ended with exit code " + code + "\n";
    }

    private static void remove(Path folder) throws IOException {
        try (Stream<Path> all = Files.walk(folder)) {
            for (Path path : all.sorted(Comparator.reverseOrder()).toList()) {
                Files.delete(path);
            }
        }
    }
}

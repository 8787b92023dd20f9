import java.io.File;
import java.io.IOException;
import java.lang.reflect.Method;
import java.lang.reflect.Modifier;
import java.nio.file.Files;
import java.nio.file.Path;
import java.util.ArrayList;
import java.util.List;
import java.util.Set;
import java.util.TreeSet;
import java.util.regex.Matcher;
import java.util.regex.Pattern;

/**
 * What README.md says holds. Its Java is turned into a program that asks every call shown and compares the answer,
 * so a line that would not compile, or that this test can't read, is a fault too.
 */
public final class ReadmeTest {
    private static final String NEW_OBJECT = "PlanFractions x = new PlanFractions();";
    private static final Pattern CALL =
        Pattern.compile("(int|long) (\\w+) = (x\\.(\\w+)\\(.*\\)); +// (throws )?(-?\\w+)(: (.*))?");
    private static final Pattern FRACTION = Pattern.compile("(-?\\d+/\\d+)(, .*)?");
    private static final Pattern TEXT = Pattern.compile("\"(.*)\"(, .*)?");
    private static final Pattern NAME = Pattern.compile("`([A-Z]\\w+)`");

    private static final Check check = new Check();
    private static final Set<String> shown = new TreeSet<>();

    public static void main(String[] args) throws IOException, InterruptedException {
        List<String> readme = Files.readAllLines(Path.of("README.md"));
        checkCalls(readme);
        checkCommands(readme);
        checkNames(readme);
        check.end();
    }

    // ---- the calls

    private static void checkCalls(List<String> readme) throws IOException, InterruptedException {
        String program = programOf(blocks(readme, "```java"));
        check.due("the calls that README.md shows", shown, face());
        Path room = Files.createTempDirectory("readme");
        Path source = room.resolve("ReadmeCalls.java");
        Files.writeString(source, program);
        String path = System.getProperty("java.class.path");
        check.due("README.md's calls compile", run("javac", "--release", "17", "-cp", path, "-d", room.toString(),
            source.toString()), 0);
        check.due("README.md's calls answer so", run("java", "-cp", path + File.pathSeparator + room, "ReadmeCalls"), 0);
        delete(room);
    }

    private static String programOf(List<List<String>> blocks) {
        StringBuilder program = new StringBuilder();
        program.append("final class ReadmeCalls {\n")
            .append("static final int NONE = -1, BAD = -2, FULL = -3, WIDE = -4, STATE = -5;\n")
            .append("public static void main(String[] args) {\nCheck check = new Check();\n");
        for (List<String> block : blocks) {
            program.append("{\n");
            for (String line : block) {
                program.append(statementsOf(line)).append('\n');
            }
            program.append("}\n");
        }
        return program.append("check.end();\n}\n}\n").toString();
    }

    private static String statementsOf(String line) {
        if (line.isBlank() || line.equals(NEW_OBJECT)) {
            return line;
        }
        Matcher call = CALL.matcher(line);
        check.due("a call can be read: " + line, call.matches(), true);
        if (!call.matches()) {
            return "";
        }
        shown.add(call.group(4));
        String told = quoted(call.group(3));
        if (call.group(5) != null) {
            return "check.throwsJust(" + told + ", " + call.group(6) + ".class, () -> { " + call.group(1) + " "
                + call.group(2) + " = " + call.group(3) + "; return " + call.group(2) + "; });";
        }
        return line + "\ncheck.due(" + told + ", " + call.group(2) + ", " + call.group(6) + ");"
            + made(call, told);
    }

    /** Behind the answer may stand the NUMBER of the VALUE that was made, or what was WRITTEN. */
    private static String made(Matcher call, String told) {
        String remark = call.group(8) == null ? "" : call.group(8);
        Matcher fraction = FRACTION.matcher(remark);
        if (fraction.matches()) {
            return "\ncheck.due(" + told + ", Check.text(x, " + call.group(2) + "), " + quoted(fraction.group(1)) + ");";
        }
        Matcher text = TEXT.matcher(remark);
        if (text.matches()) {
            return "\ncheck.due(" + told + ", Check.written(x), " + quoted(text.group(1)) + ");";
        }
        return "";
    }

    private static String quoted(String text) {
        return "\"" + text + "\"";
    }

    private static Set<String> face() {
        Set<String> names = new TreeSet<>();
        for (Method method : PlanFractions.class.getDeclaredMethods()) {
            if (Modifier.isPublic(method.getModifiers())) {
                names.add(method.getName());
            }
        }
        return names;
    }

    // ---- the commands

    /** All but .ci/run itself, which this test is a part of. */
    private static void checkCommands(List<String> readme) throws IOException, InterruptedException {
        check.due(".ci/run can be executed", Files.isExecutable(Path.of(".ci/run")), true);
        List<List<String>> blocks = blocks(readme, "```sh");
        check.due("the first command", blocks.get(0), List.of(".ci/run"));
        for (List<String> block : blocks.subList(1, blocks.size())) {
            String commands = String.join("\n", block);
            check.due("the commands " + commands, run("sh", "-e", "-c", commands), 0);
        }
    }

    // ---- the names

    private static void checkNames(List<String> readme) throws IOException {
        Set<String> named = new TreeSet<>();
        for (String line : readme) {
            Matcher name = NAME.matcher(line);
            while (name.find()) {
                named.add(name.group(1));
            }
        }
        Set<String> there = new TreeSet<>(Set.of("NONE", "BAD", "FULL", "WIDE", "STATE", "BigInteger", "Test"));
        for (Class<?> inside : PlanFractions.class.getDeclaredClasses()) {
            there.add(inside.getSimpleName());
        }
        try (var files = Files.list(Path.of("src/test/java"))) {
            files.forEach(file -> there.add(file.getFileName().toString().replace(".java", "")));
        }
        check.due("the names in README.md", named, there);
    }

    // ---- helpers

    private static List<List<String>> blocks(List<String> readme, String fence) {
        List<List<String>> blocks = new ArrayList<>();
        List<String> open = null;
        for (String line : readme) {
            if (open == null && line.equals(fence)) {
                open = new ArrayList<>();
            } else if (open != null && line.equals("```")) {
                blocks.add(open);
                open = null;
            } else if (open != null) {
                open.add(line);
            }
        }
        return blocks;
    }

    private static int run(String... command) throws IOException, InterruptedException {
        return new ProcessBuilder(command).inheritIO().start().waitFor();
    }

    private static void delete(Path room) throws IOException {
        try (var files = Files.list(room)) {
            for (Path file : files.toList()) {
                Files.delete(file);
            }
        }
        Files.delete(room);
    }
}

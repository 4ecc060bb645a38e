import java.io.File;
import java.io.IOException;
import java.lang.reflect.Method;
import java.lang.reflect.Modifier;
import java.nio.file.Files;
import java.nio.file.Path;
import java.util.ArrayList;
import java.util.Comparator;
import java.util.List;
import java.util.Set;
import java.util.TreeSet;
import java.util.regex.Matcher;
import java.util.regex.Pattern;
import java.util.stream.Stream;

/**
 * README.md is followed as a reader would: its program, its commands, each answer that it shows, its tables. And each
 * test that BOUNDS.md and PROMISES.md name is there.
 */
public final class ReadmeTest {
    private static final Due DUE = new Due("ReadmeTest");
    private static final Pattern BLOCK = Pattern.compile("(?ms)^```(\\w+)\n(.*?)^```$");
    private static final Pattern SHOWN =
            Pattern.compile("(x\\.(\\w+)\\(.*\\)); +// (throws \\w+|true|false|-?\\d+)(: .*)?");
    private static final Pattern ITEM = Pattern.compile("`(\\w)` [^`]*?: (\\d+) \\.\\. (\\d+)");

    private static final Pattern NAMED = Pattern.compile("^(?:([A-Z]\\w+)\\.)?([a-z]\\w*)(?: \\(.*\\))?$");

    public static void main(String[] args) throws IOException, InterruptedException {
        String page = Files.readString(Path.of("README.md"));
        Path room = Files.createTempDirectory("readme");
        try {
            copy(Path.of("src"), room.resolve("src"));
            program(page, room);
            answers(page, room);
            oneTest(page, room);
        } finally {
            delete(room);
        }
        everyCallIsShown(page);
        items(page);
        tests(page);
        namedTests("BOUNDS.md");
        namedTests("PROMISES.md");
        DUE.finish();
    }

    private static List<String> blocks(String page, String kind) {
        List<String> blocks = new ArrayList<>();
        Matcher m = BLOCK.matcher(page);
        while (m.find()) {
            if (m.group(1).equals(kind)) {
                blocks.add(m.group(2));
            }
        }
        return blocks;
    }

    /** The first program, put where the page says and run by the commands of the page. */
    private static void program(String page, Path room) throws IOException, InterruptedException {
        Files.writeString(room.resolve("FirstIsland.java"), blocks(page, "java").get(0));
        String printed = follow(blocks(page, "sh").get(0), room);
        same("FirstIsland", printed, blocks(page, "text").get(0));
    }

    /** All lines behind the first program, one by one, with tell of that program. */
    private static void answers(String page, Path room) throws IOException, InterruptedException {
        StringBuilder body = new StringBuilder();
        List<String> calls = new ArrayList<>();
        List<String> due = new ArrayList<>();
        List<String> lines = new ArrayList<>();
        List<String> blocks = blocks(page, "java");
        for (String block : blocks.subList(1, blocks.size())) {
            lines.addAll(List.of(block.split("\n")));
        }
        for (String line : lines) {
            Matcher m = SHOWN.matcher(line);
            if (m.matches()) {
                calls.add(m.group(1));
                due.add(m.group(3));
                body.append("try { System.out.println(").append(m.group(1)).append("); }\n")
                        .append("catch (RuntimeException e) { System.out.println(\"throws \" + ")
                        .append("e.getClass().getSimpleName()); }\n");
            } else {
                boolean told = line.startsWith("tell(x, ") || line.startsWith("RememberedWeight x = ");
                DUE.is("a line that tells no answer: " + line, told, true);
                body.append(line.replaceFirst("^tell", "FirstIsland.tell")).append('\n');
            }
        }
        Files.writeString(room.resolve("Shown.java"), "public final class Shown {\n"
                + "public static void main(String[] args) {\n" + body + "}\n}\n");
        String[] printed = follow("javac -cp out -d out Shown.java && java -cp out Shown", room).split("\n");
        DUE.is("answers shown", printed.length, due.size());
        for (int i = 0; i < due.size() && i < printed.length; i++) {
            same(calls.get(i), printed[i], due.get(i));
        }
    }

    private static void oneTest(String page, Path room) throws IOException, InterruptedException {
        List<String> commands = blocks(page, "sh");
        DUE.is("the command that runs all tests", commands.get(1).equals(".ci/run\n"), true);
        DUE.is("it can be run", Files.isExecutable(Path.of(".ci/run")), true);
        String printed = follow(commands.get(2), room);
        DUE.is("one test alone: " + printed, printed.matches("\\w+: \\d+ calls, 0 not as due\n"), true);
    }

    private static void everyCallIsShown(String page) {
        TreeSet<String> shown = new TreeSet<>();
        for (String block : blocks(page, "java")) {
            for (String line : block.split("\n")) {
                Matcher m = SHOWN.matcher(line);
                if (m.matches()) {
                    shown.add(m.group(2));
                }
            }
        }
        TreeSet<String> face = new TreeSet<>();
        for (Method method : RememberedWeight.class.getDeclaredMethods()) {
            if (Modifier.isPublic(method.getModifiers())) {
                face.add(method.getName());
            }
        }
        same("calls that are shown", shown.toString(), face.toString());
    }

    /** Each ITEM of the table is wrong at its last digit just outside the bounds told there, and not within them. */
    private static void items(String page) {
        int items = 0;
        for (String line : page.split("\n")) {
            if (!line.matches("\\| `[spt]`, .*")) {
                continue;
            }
            Matcher m = ITEM.matcher(line.substring(6));
            while (m.find()) {
                items++;
                String ahead = "p;p;p;p;p;p;p;" + line.charAt(3) + m.group(1);
                int low = Integer.parseInt(m.group(2));
                int high = Integer.parseInt(m.group(3));
                for (int v = 0; v <= 99; v++) {
                    String text = ahead + v;
                    boolean wrong = Due.fault(text, 0) == text.length() - 1;
                    DUE.is(text + " is out of bounds", wrong, v < low || v > high);
                }
            }
        }
        DUE.is("ITEMS", items, 11);
    }

    private static void tests(String page) throws IOException {
        TreeSet<String> told = new TreeSet<>();
        Matcher m = Pattern.compile("(?m)^\\| `(\\w+Test)` \\|").matcher(page);
        while (m.find()) {
            told.add(m.group(1));
        }
        TreeSet<String> there = new TreeSet<>();
        try (Stream<Path> files = Files.list(Path.of("src/test/java"))) {
            files.map(file -> file.getFileName().toString()).filter(name -> name.endsWith("Test.java"))
                    .forEach(name -> there.add(name.replace(".java", "")));
        }
        same("tests that the page names", told.toString(), there.toString());
    }

    /** A name without a test ahead of it is of the test that was named last in its row. */
    private static void namedTests(String file) throws IOException {
        int named = 0;
        for (String line : Files.readAllLines(Path.of("src/test", file))) {
            Set<String> names = Set.of();
            for (String column : line.startsWith("| ") ? line.split(" \\| ") : new String[0]) {
                for (String word : column.replace(" |", "").split(", ")) {
                    Matcher m = NAMED.matcher(word);
                    if (m.find()) {
                        names = m.group(1) == null ? names : namesOf(m.group(1));
                        named += names.isEmpty() ? 0 : 1;
                        DUE.is(file + " names " + word, names.isEmpty() || names.contains(m.group(2)), true);
                    }
                }
            }
        }
        DUE.is("names in " + file + ", " + named, named >= 80, true);
    }

    private static Set<String> namesOf(String test) {
        Set<String> names = new TreeSet<>();
        for (String end : new String[] {"Test", "BoundsTest"}) {
            try {
                for (Method method : Class.forName(test + end).getDeclaredMethods()) {
                    names.add(method.getName());
                }
            } catch (ClassNotFoundException e) {
                names.add("");
            }
        }
        return names;
    }

    private static void same(String what, String got, String want) {
        DUE.is(what + " is " + got + ", shown is " + want + ": alike", got.equals(want), true);
    }

    /** What the commands print; a command that fails prints less. */
    private static String follow(String commands, Path room) throws IOException, InterruptedException {
        File printed = room.resolve("printed").toFile();
        int end = new ProcessBuilder("sh", "-c", commands).directory(room.toFile()).redirectOutput(printed)
                .redirectError(ProcessBuilder.Redirect.INHERIT).start().waitFor();
        DUE.is("the end of " + commands, end, 0);
        return Files.readString(printed.toPath());
    }

    private static void copy(Path from, Path to) throws IOException {
        try (Stream<Path> files = Files.walk(from)) {
            for (Path file : files.toList()) {
                Files.copy(file, to.resolve(from.relativize(file)));
            }
        }
    }

    private static void delete(Path room) throws IOException {
        try (Stream<Path> files = Files.walk(room)) {
            for (Path file : files.sorted(Comparator.reverseOrder()).toList()) {
                Files.delete(file);
            }
        }
    }
}

import java.io.IOException;
import java.nio.charset.StandardCharsets;
import java.nio.file.Files;
import java.nio.file.Path;
import java.nio.file.Paths;
import java.util.ArrayList;
import java.util.Comparator;
import java.util.List;
import java.util.TreeSet;
import java.util.regex.Matcher;
import java.util.regex.Pattern;
import java.util.stream.Collectors;
import java.util.stream.Stream;

/** README.md: its commands are run as they stand there, its example prints what is shown, its calls answer so. */
public final class ReadmeTest {
    private static final Pattern BLOCK = Pattern.compile("(?m)^```(\\w+)\n(.*?)^```$", Pattern.DOTALL);
    private static final Pattern CALL = Pattern.compile("x\\.(\\w+\\(.*?\\)); +// (-?\\d+)(?![\\w.]).*");

    private final Path room;
    private final List<String> commands = new ArrayList<>();
    private final StringBuilder members = new StringBuilder();
    private final StringBuilder calls = new StringBuilder();
    private String example = "";
    private String printed = "";
    private int answers;

    private ReadmeTest(Path room) {
        this.room = room;
    }

    public static void main(String[] args) throws IOException, InterruptedException {
        Check.part("README.md");
        String readme = Files.readString(Path.of("README.md"));
        Path room = Files.createTempDirectory("readme");
        try {
            ReadmeTest test = new ReadmeTest(room);
            test.takeBlocks(readme);
            test.fill();
            test.runCommands();
            test.runCalls();
        } finally {
            empty(room);
        }
        namesOfFiles(readme);
        Check.close();
    }

    private void takeBlocks(String readme) {
        Matcher block = BLOCK.matcher(readme);
        while (block.find()) {
            String text = block.group(2);
            if (block.group(1).equals("sh")) {
                commands.addAll(List.of(text.split("\n")));
            } else if (block.group(1).equals("text")) {
                printed = text;
            } else if (text.contains("class Example")) {
                example = text;
            } else if (text.startsWith("static")) {
                members.append(text);
            } else {
                text.lines().forEach(this::takeLine);
            }
        }
        if (answers < 30) {
            Check.wrong("no more than " + answers + " answers are shown");
        }
    }

    private void takeLine(String line) {
        Matcher call = CALL.matcher(line);
        if (call.matches()) {
            answers++;
            calls.append("Check.due(\"").append(call.group(1)).append("\", x.").append(call.group(1)).append(", ")
                .append(call.group(2)).append(");\n");
        } else {
            if (line.startsWith("x.")) {
                Check.wrong("no answer is shown: " + line);
            }
            calls.append(line).append("\n");
        }
    }

    /** What a reader has who compiles and runs: the program, the tests, the example. */
    private void fill() throws IOException {
        for (String from : new String[] {"src/main/java", "tests"}) {
            Files.createDirectories(room.resolve(from));
            try (Stream<Path> files = Files.list(Path.of(from))) {
                for (Path file : files.collect(Collectors.toList())) {
                    Files.copy(file, room.resolve(from).resolve(file.getFileName()));
                }
            }
        }
        Files.writeString(room.resolve("Example.java"), example);
    }

    private void runCommands() throws IOException, InterruptedException {
        boolean shown = false;
        for (String command : commands) {
            if (command.equals(".ci/run")) {
                // it runs this test, too
                Check.due("it can be run: " + command, Files.isExecutable(Path.of(command)) ? 1 : 0, 1);
                continue;
            }
            String told = run(command);
            if (command.endsWith(" Example")) {
                shown = true;
                if (!told.equals(printed)) {
                    Check.wrong("the example prints\n" + told);
                }
            }
        }
        Check.due("the example is run", shown ? 1 : 0, 1);
    }

    private void runCalls() throws IOException, InterruptedException {
        Files.writeString(room.resolve("Shown.java"), "public final class Shown {\n" + members
            + "public static void main(String[] args) {\n" + calls + "Check.close();\n}\n}\n");
        run("javac -d shown src/main/java/ShortPrayers.java tests/Check.java Shown.java");
        String told = run("java -cp shown Shown");
        if (!told.equals("all answers are as due\n")) {
            Check.wrong("the calls that are shown:\n" + told);
        }
    }

    private String run(String command) throws IOException, InterruptedException {
        Process process = new ProcessBuilder("sh", "-c", command).directory(room.toFile()).redirectErrorStream(true).start();
        String told = new String(process.getInputStream().readAllBytes(), StandardCharsets.UTF_8);
        if (process.waitFor() != 0) {
            Check.wrong(command + " fails:\n" + told);
        }
        return told;
    }

    /** Every test is told of, and no other. */
    private static void namesOfFiles(String readme) throws IOException {
        TreeSet<String> told = new TreeSet<>();
        Matcher name = Pattern.compile("`tests/(\\w+\\.java)`").matcher(readme);
        while (name.find()) {
            told.add(name.group(1));
        }
        TreeSet<String> there = new TreeSet<>();
        try (Stream<Path> files = Files.list(Paths.get("tests"))) {
            files.forEach(file -> there.add(file.getFileName().toString()));
        }
        if (!told.equals(there)) {
            Check.wrong("tests are told: " + told + ", there are: " + there);
        }
    }

    private static void empty(Path room) throws IOException {
        try (Stream<Path> all = Files.walk(room)) {
            for (Path each : all.sorted(Comparator.reverseOrder()).collect(Collectors.toList())) {
                Files.delete(each);
            }
        }
    }
}

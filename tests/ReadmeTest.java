import java.io.IOException;
import java.nio.file.Files;
import java.nio.file.Path;
import java.nio.file.StandardCopyOption;
import java.util.ArrayList;
import java.util.Collections;
import java.util.List;
import java.util.regex.Matcher;
import java.util.regex.Pattern;
import java.util.stream.Collectors;
import java.util.stream.Stream;

/** README.md: its commands and examples work as they are written, in a copy of the project. */
public final class ReadmeTest {
    private static final Pattern BLOCK = Pattern.compile("(?ms)^```(\\w*)\\n(.*?)^```$");
    private static final Pattern CLASS = Pattern.compile("public final class (\\w+)");
    private static final Pattern SHARED_TEST = Pattern.compile("\\.\\./shared/tests/\\w+\\.java");

    private final List<String> languages = new ArrayList<>();
    private final List<String> texts = new ArrayList<>();
    private final Path room;
    private final Path project;

    private ReadmeTest(Path room) {
        this.room = room;
        project = room.resolve("main");
    }

    private void readBlocks() throws IOException {
        Matcher block = BLOCK.matcher(Files.readString(Path.of("README.md")));
        while (block.find()) {
            languages.add(block.group(1));
            texts.add(block.group(2));
        }
    }

    private static List<Path> filesIn(Path directory) throws IOException {
        try (Stream<Path> files = Files.walk(directory)) {
            return files.filter(Files::isRegularFile).sorted().collect(Collectors.toList());
        }
    }

    private static void copy(Path from, Path to) throws IOException {
        for (Path file : filesIn(from)) {
            Path copied = to.resolve(from.relativize(file).toString());
            Files.createDirectories(copied.getParent());
            Files.copy(file, copied, StandardCopyOption.COPY_ATTRIBUTES);
        }
    }

    private void copyProject() throws IOException {
        copy(Path.of("src"), project.resolve("src"));
        copy(Path.of(".ci"), project.resolve(".ci"));
        copy(Path.of("tests"), project.resolve("tests"));
        copy(Path.of("../shared").toRealPath(), room.resolve("shared"));
        // .ci/run is to show that it works: for this the tests that are named in a command are enough, and this
        // one must not run itself.
        String commands = String.join("", texts);
        for (Path file : filesIn(project.resolve("tests"))) {
            String name = file.getFileName().toString().replace(".java", "");
            if (name.endsWith("Test") && !commands.contains("java -cp out " + name)) {
                Files.delete(file);
            }
        }
    }

    /** Runs commands up to one that fails; returns what they printed, and the exit code behind it if it is not 0. */
    private String run(String commands) throws IOException, InterruptedException {
        // What javac or java tell of themselves is no answer: it goes where this test's own errors go.
        Process shell = new ProcessBuilder("bash", "-e", "-c", commands)
                .directory(project.toFile()).redirectError(ProcessBuilder.Redirect.INHERIT).start();
        shell.getOutputStream().close();
        String printed = new String(shell.getInputStream().readAllBytes());
        int code = shell.waitFor();
        return code == 0 ? printed : printed + "exit code " + code;
    }

    private boolean isForGoneTest(String commands) {
        Matcher named = SHARED_TEST.matcher(commands);
        if (!named.find() || Files.exists(project.resolve(named.group()))) {
            return false;
        }
        System.out.println("ReadmeTest: " + named.group() + " is gone, so its command is not judged");
        return true;
    }

    private void judgeExample(int block) throws IOException {
        Matcher named = CLASS.matcher(texts.get(block));
        boolean isWhole = named.find();
        Check.same("README.md's example is a whole class: " + texts.get(block), isWhole, true);
        if (isWhole) {
            Files.writeString(project.resolve(named.group(1) + ".java"), texts.get(block));
        }
    }

    private void judgeCommands(int block) throws IOException, InterruptedException {
        if (isForGoneTest(texts.get(block))) {
            return;
        }
        String printed = run(texts.get(block));
        boolean isTold = block + 1 < texts.size() && languages.get(block + 1).equals("text");
        if (isTold) {
            Check.same(texts.get(block), printed, texts.get(block + 1));
        } else {
            boolean isPassed = !printed.contains("exit code");
            Check.same(texts.get(block) + (isPassed ? "" : printed), isPassed, true);
        }
    }

    private void judgeBlocks() throws IOException, InterruptedException {
        for (int block = 0; block < texts.size(); block++) {
            switch (languages.get(block)) {
                case "java":
                    judgeExample(block);
                    break;
                case "sh":
                    judgeCommands(block);
                    break;
                default:
                    Check.same("a block that nothing judges: " + texts.get(block), languages.get(block), "text");
                    break;
            }
        }
        Check.same("README.md has examples", languages.contains("java") && languages.contains("text"), true);
    }

    private void judgeTable() throws IOException {
        String readme = Files.readString(Path.of("README.md"));
        for (Path file : filesIn(Path.of("tests"))) {
            String name = file.getFileName().toString().replace(".java", "");
            boolean isTold = !name.endsWith("Test") || readme.contains("| `" + name + "` |");
            Check.same("README.md's table tells of " + name, isTold, true);
        }
    }

    private void remove() throws IOException {
        List<Path> all;
        try (Stream<Path> files = Files.walk(room)) {
            all = files.collect(Collectors.toList());
        }
        Collections.reverse(all);
        for (Path path : all) {
            Files.delete(path);
        }
    }

    public static void main(String[] args) throws IOException, InterruptedException {
        ReadmeTest test = new ReadmeTest(Files.createTempDirectory("readme"));
        test.readBlocks();
        try {
            test.copyProject();
            test.judgeBlocks();
        } finally {
            test.remove();
        }
        test.judgeTable();
        Check.end("ReadmeTest");
    }
}

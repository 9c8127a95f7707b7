import java.io.IOException;
import java.nio.file.Files;
import java.nio.file.Path;
import java.util.ArrayList;
import java.util.List;
import java.util.Set;
import java.util.TreeSet;
import java.util.regex.Matcher;
import java.util.regex.Pattern;
import java.util.stream.Stream;

/** README.md holds as it is written: its program prints what stands there, its commands end well. */
public final class ReadmeTest {
    private static int wrong = 0;

    public static void main(String[] args) throws Exception {
        String page = Files.readString(Path.of("README.md"));
        Path room = Files.createTempDirectory("readme");
        try {
            Path project = copyOfProject(room);
            program(page, project);
            commands(page, project);
        } finally {
            remove(room);
        }
        names(page);
        System.out.println(wrong == 0 ? "ReadmeTest: the page holds" : wrong + " things on the page do not hold");
        if (wrong != 0) System.exit(1);
    }

    private static void due(String what, boolean so) {
        if (!so) {
            wrong++;
            System.out.println("README.md: " + what);
        }
    }

    /** The project beside ../shared once more, so that the commands leave nothing in the real one. */
    private static Path copyOfProject(Path room) throws IOException {
        Path shared = Path.of("../shared");
        if (Files.exists(shared)) Files.createSymbolicLink(room.resolve("shared"), shared.toRealPath());
        Path project = Files.createDirectories(room.resolve("main"));
        try (Stream<Path> files = Stream.concat(Files.walk(Path.of("src")), Stream.of(Path.of("README.md")))) {
            for (Path file : (Iterable<Path>) files::iterator) {
                Path to = project.resolve(file);
                Files.createDirectories(to.getParent());
                if (Files.isRegularFile(file)) Files.copy(file, to);
            }
        }
        return project;
    }

    private static void remove(Path room) throws IOException {
        List<Path> all = new ArrayList<>();
        try (Stream<Path> files = Files.walk(room)) {
            files.forEach(all::add);
        }
        for (int p = all.size() - 1; p >= 0; p--) Files.delete(all.get(p));
    }

    private static List<String> blocks(String page, String kind) {
        List<String> list = new ArrayList<>();
        Matcher m = Pattern.compile("(?s)```" + kind + "\n(.*?)```").matcher(page);
        while (m.find()) list.add(m.group(1));
        return list;
    }

    private static void program(String page, Path project) throws Exception {
        List<String> programs = blocks(page, "java");
        List<String> printed = blocks(page, "text");
        due("one program and what it prints", programs.size() == 1 && printed.size() == 1);
        if (wrong != 0) return;
        Files.writeString(project.resolve("Yours.java"), programs.get(0));
        String got = run(blocks(page, "sh").get(0), project);
        due("the program printed\n" + got, got.equals(printed.get(0)));
    }

    private static void commands(String page, Path project) throws Exception {
        List<String> shells = blocks(page, "sh");
        due("commands for the program, for all tests and for one", shells.size() == 3);
        if (wrong != 0) return;
        // what runs this test can't be run by it
        due("all tests are run by .ci/run", shells.get(1).equals(".ci/run\n") && Files.isExecutable(Path.of(".ci/run")));
        String got = run(shells.get(2), project);
        due("a test alone printed\n" + got, got.endsWith("1000 runs are as the oracle's\n"));
    }

    private static String run(String commands, Path project) throws Exception {
        Process p = new ProcessBuilder("sh", "-e", "-c", commands).directory(project.toFile()).redirectErrorStream(true).start();
        String printed = new String(p.getInputStream().readAllBytes());
        due("the commands do not end well:\n" + commands + printed, p.waitFor() == 0);
        return printed;
    }

    private static void names(String page) throws IOException {
        Set<String> named = new TreeSet<>();
        Matcher m = Pattern.compile("`([A-Z]\\w+)(?: \\[\\w+\\])?`").matcher(page);
        while (m.find()) named.add(m.group(1));
        named.remove("NONE");
        for (String name : named) due("there is no test " + name, Files.exists(Path.of("src/test/java/" + name + ".java")));
        try (Stream<Path> files = Files.list(Path.of("src/test/java"))) {
            for (Path file : (Iterable<Path>) files::iterator) {
                String name = file.getFileName().toString().replace(".java", "");
                if (name.endsWith("Test")) due(name + " is not named", named.contains(name));
            }
        }
    }
}

import java.io.IOException;
import java.nio.file.Files;
import java.nio.file.Path;
import java.nio.file.StandardCopyOption;
import java.util.ArrayList;
import java.util.List;
import java.util.Set;
import java.util.TreeSet;
import java.util.regex.Matcher;
import java.util.regex.Pattern;
import java.util.stream.Stream;

/** README.md: what it shows is there, what it tells to do is done, and gives what it says. */
public final class ReadmeTest {
    private static final Path README = Path.of("README.md");
    private static final Path DOCUMENT = Path.of("../shared/DOC.md");
    private static final Path TESTS = Path.of("src/test/java");
    private static final Due due = new Due();

    private record Block(String kind, String text) { }

    public static void main(String[] args) throws IOException, InterruptedException {
        String readme = Files.readString(README);
        calls(readme);
        answers(readme);
        programs(blocksOf(readme));
        commands(blocksOf(readme));
        tests(readme);
        due.end();
    }

    private static List<Block> blocksOf(String readme) {
        List<Block> blocks = new ArrayList<>();
        Matcher fenced = Pattern.compile("^```(\\w+)\n(.*?)^```$",
            Pattern.DOTALL | Pattern.MULTILINE).matcher(readme);
        while (fenced.find()) {
            blocks.add(new Block(fenced.group(1), fenced.group(2)));
        }
        return blocks;
    }

    private static List<String> all(String pattern, String text) {
        List<String> found = new ArrayList<>();
        Matcher matcher = Pattern.compile(pattern, Pattern.MULTILINE).matcher(text);
        while (matcher.find()) {
            found.add(matcher.group(1));
        }
        return found;
    }

    private static void same(String claim, Object got, Object want) {
        due.holds(claim + ": " + got + ", due is " + want, got.equals(want));
    }

    private static void calls(String readme) throws IOException {
        due.part("the calls");
        List<String> face = all("^    public (?:int|long) (\\w+\\(.*\\));$",
            Files.readString(DOCUMENT));
        due.is("calls of the document", face.size(), 28);
        same("rows for them, in order", all("^\\| `(\\w+\\(.*?\\))` \\|", readme), face);
    }

    private static void answers(String readme) {
        due.part("answers below 0");
        Set<String> names = new TreeSet<>();
        for (Matcher row = Pattern.compile("^\\| (-\\d+) \\| `(\\w+)` \\|", Pattern.MULTILINE)
                .matcher(readme); row.find();) {
            names.add(row.group(2) + row.group(1));
        }
        same("names", names, new TreeSet<>(List.of("BAD" + TurnBoards.BAD,
            "STATE" + TurnBoards.STATE, "FULL" + TurnBoards.FULL, "NONE" + TurnBoards.NONE,
            "SPENT" + TurnBoards.SPENT)));
        same("faults", all("^\\| (-1\\d \\| fault \\d) \\|", readme),
            List.of("-11 | fault 1", "-12 | fault 2", "-13 | fault 3", "-14 | fault 4"));
        same("told with a number", all("^\\| (-\\d+) - .* \\|  *\\|", readme),
            List.of("-20", "-100", "-200", "-300", "-1000"));
    }

    private static void programs(List<Block> blocks) throws IOException {
        due.part("programs");
        int shown = 0;
        for (Block block : blocks) {
            if (block.kind.equals("java")) {
                String name = all("^public final class (\\w+)", block.text).get(0);
                same(name, block.text, Files.readString(Path.of("examples", name + ".java")));
                shown++;
            }
        }
        due.holds("a program is shown", shown > 0);
    }

    /** In a copy, beside the shared directory, so that nothing is left behind here. */
    private static void commands(List<Block> blocks) throws IOException, InterruptedException {
        due.part("commands");
        Path room = Files.createTempDirectory("readme");
        Path copy = room.resolve("main");
        copyTree(Path.of("src"), copy.resolve("src"));
        copyTree(Path.of("examples"), copy.resolve("examples"));
        Files.createSymbolicLink(room.resolve("shared"), Path.of("../shared").toRealPath());
        int given = 0;
        for (int i = 0; i < blocks.size(); i++) {
            // .ci/run is what runs this test
            if (blocks.get(i).kind.equals("sh") && !blocks.get(i).text.equals(".ci/run\n")) {
                Block next = i + 1 < blocks.size() ? blocks.get(i + 1) : blocks.get(i);
                give(blocks.get(i).text, next.kind.equals("text") ? next.text : null, copy);
                given++;
            }
        }
        due.holds("commands are given", given > 0);
        removeTree(room);
        due.holds(".ci/run can be run", Files.isExecutable(Path.of(".ci/run")));
    }

    private static void give(String commands, String want, Path where)
            throws IOException, InterruptedException {
        Process shell = new ProcessBuilder("sh", "-e", "-c", commands).directory(where.toFile())
            .redirectError(ProcessBuilder.Redirect.INHERIT).start();
        String printed = new String(shell.getInputStream().readAllBytes());
        due.is(commands + printed, shell.waitFor(), 0);
        if (want != null) {
            same(commands, printed, want);
        }
    }

    private static void copyTree(Path from, Path to) throws IOException {
        try (Stream<Path> paths = Files.walk(from)) {
            for (Path path : paths.toList()) {
                Path copy = to.resolve(from.relativize(path));
                Files.createDirectories(copy.getParent());
                Files.copy(path, copy, StandardCopyOption.REPLACE_EXISTING);
            }
        }
    }

    private static void removeTree(Path room) throws IOException {
        try (Stream<Path> paths = Files.walk(room)) {
            List<Path> inside = new ArrayList<>(paths.toList());
            for (int i = inside.size() - 1; i >= 0; i--) {
                Files.delete(inside.get(i));
            }
        }
    }

    private static void tests(String readme) throws IOException {
        due.part("tests");
        Set<String> files = new TreeSet<>();
        try (Stream<Path> paths = Files.list(TESTS)) {
            paths.forEach(path -> files.add(path.getFileName().toString()));
        }
        same("files that are named", new TreeSet<>(all("`(\\w+\\.java)`", readme)), files);
        for (String path : all("`((?:\\.\\./)?\\w+/[\\w/]+(?:\\.\\w+)?)`", readme)) {
            due.holds(path + " is there", Files.exists(Path.of(path)));
        }
    }
}

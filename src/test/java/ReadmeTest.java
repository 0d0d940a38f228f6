import java.io.IOException;
import java.nio.charset.StandardCharsets;
import java.nio.file.Files;
import java.nio.file.Path;
import java.util.ArrayList;
import java.util.Comparator;
import java.util.List;
import java.util.Map;
import java.util.Set;
import java.util.TreeMap;
import java.util.TreeSet;
import java.util.regex.Matcher;
import java.util.regex.Pattern;
import java.util.stream.Stream;

/** What README.md says works as it stands there: its example, its commands, its refusals, its list of tests. */
public final class ReadmeTest {
    private static final Path EXAMPLE = Path.of("src/example/java/Night.java");
    private static final Path TESTS = Path.of("src/test/java");
    private static final Due due = new Due();

    /** A piece of the page between fences, and of which kind it is. */
    private record Block(String kind, String text) {
    }

    private record Ended(int exit, String printed) {
    }

    public static void main(String[] args) throws IOException, InterruptedException {
        String page = Files.readString(Path.of("README.md"));
        List<Block> blocks = blocks(page);
        Path room = Files.createTempDirectory("readme");
        try {
            commands(blocks, room);
        } finally {
            remove(room);
        }
        example(blocks);
        all(page);
        refusals(page);
        list(page);
        due.end();
    }

    private static void yes(String what, boolean so) {
        due.is(what, so ? 1 : 0, 1);
    }

    private static List<Block> blocks(String page) {
        List<Block> all = new ArrayList<>();
        Matcher fences = Pattern.compile("(?ms)^```(\\w+)\n(.*?)^```$").matcher(page);
        while (fences.find()) {
            all.add(new Block(fences.group(1), fences.group(2)));
        }
        return all;
    }

    private static void example(List<Block> blocks) throws IOException {
        List<Block> shown = blocks.stream().filter(b -> b.kind().equals("java")).toList();
        due.is("examples", shown.size(), 1);
        yes("the example is its file's", shown.get(0).text().equals(Files.readString(EXAMPLE)));
    }

    /** Each ends with exit code 0, and prints what stands behind it, if anything does. */
    private static void commands(List<Block> blocks, Path room) throws IOException, InterruptedException {
        int commands = 0;
        for (int k = 0; k < blocks.size(); k++) {
            if (!blocks.get(k).kind().equals("sh")) {
                continue;
            }
            commands++;
            String command = blocks.get(k).text();
            Ended ended = run(command, room);
            due.is(command + ended.printed(), ended.exit(), 0);
            if (k + 1 < blocks.size() && blocks.get(k + 1).kind().equals("text")) {
                yes("prints what is told: " + ended.printed(), ended.printed().equals(blocks.get(k + 1).text()));
            }
        }
        due.is("commands", commands, 3);
    }

    private static Ended run(String command, Path room) throws IOException, InterruptedException {
        ProcessBuilder shell = new ProcessBuilder("sh", "-e", "-c", command).redirectErrorStream(true);
        // what the commands make with mktemp goes with the room
        shell.environment().put("TMPDIR", room.toString());
        Process running = shell.start();
        String printed = new String(running.getInputStream().readAllBytes(), StandardCharsets.UTF_8);
        return new Ended(running.waitFor(), printed);
    }

    private static void remove(Path room) throws IOException {
        try (Stream<Path> within = Files.walk(room)) {
            for (Path path : within.sorted(Comparator.reverseOrder()).toList()) {
                Files.delete(path);
            }
        }
    }

    /** The command for all of them is what runs this test, so that it is only looked at. */
    private static void all(String page) {
        yes("tells of .ci/run", page.contains("\n    .ci/run\n"));
        yes(".ci/run is executable", Files.isExecutable(Path.of(".ci/run")));
    }

    /** For each row of the table, by what stands first in it, what some call that is refused so answers. */
    private static void refusals(String page) {
        AnchorThatDrags x = new AnchorThatDrags();
        Map<String, Long> answers = new TreeMap<>();
        answers.put("-1", (long) x.hit(12, 0, 0));
        answers.put("-2", (long) x.boat(6, 0, 0, 1));
        answers.put("-3", (long) x.back());
        answers.put("-4", fullTape());
        answers.put("-5", (long) x.boatTold(0, 0));
        answers.put("-7", (long) x.blow(0, 2, 4));
        answers.put("-11", (long) x.cell(0, 0, 0));
        answers.put("-12", (long) x.taken(100, 6));
        answers.put("-13", (long) x.taken(0, 0));
        answers.put("-14", (long) x.sheet(0, 0, -1));
        answers.put("-100", (long) x.text());
        answers.put("-1000000", (long) x.line(0, 0, 1));
        answers.put("`NO`", x.turns(0, 0) == AnchorThatDrags.NO ? 0L : 1L);
        Set<String> told = new TreeSet<>();
        Matcher rows = Pattern.compile("(?m)^\\| (-\\d+|`NO`)").matcher(page);
        while (rows.find()) {
            told.add(rows.group(1));
        }
        yes("refusals told: " + told, told.equals(answers.keySet()));
        answers.forEach((row, got) -> due.is("refused by " + row, got, row.startsWith("-") ? Long.parseLong(row) : 0L));
        for (String constant : List.of("-1 `NONE`", "-2 `BAD`", "-3 `STATE`", "-4 `FULL`")) {
            yes("tells " + constant, page.contains("| " + constant + " |"));
        }
    }

    private static long fullTape() {
        AnchorThatDrags x = new AnchorThatDrags();
        for (int k = 0; k < 32; k++) {
            x.feed(5, 32, 32, 32, 32, 32);
        }
        return x.feed(1, 32, 0, 0, 0, 0);
    }

    /** It names each test that there is, and none that there isn't. */
    private static void list(String page) throws IOException {
        Set<String> named = new TreeSet<>();
        Matcher names = Pattern.compile("`(\\w+Test)`").matcher(page);
        while (names.find()) {
            named.add(names.group(1));
        }
        Set<String> there = new TreeSet<>();
        try (Stream<Path> files = Files.list(TESTS)) {
            files.map(f -> f.getFileName().toString()).filter(f -> f.endsWith("Test.java"))
                .forEach(f -> there.add(f.replace(".java", "")));
        }
        yes("tests named " + named + ", there are " + there, named.equals(there));
    }
}

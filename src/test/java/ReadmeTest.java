import java.io.ByteArrayOutputStream;
import java.io.IOException;
import java.nio.charset.StandardCharsets;
import java.nio.file.Files;
import java.nio.file.Path;
import java.util.ArrayList;
import java.util.Comparator;
import java.util.List;
import java.util.stream.Stream;

/** README.md: the example holds as it is printed; what is named there is there. */
public final class ReadmeTest {
    private static String readme = "";

    /** The lines between a fence of a language and the next fence. */
    private static String block(String language) {
        String[] lines = readme.split("\n", -1);
        StringBuilder inside = new StringBuilder();
        boolean within = false;
        for (String line : lines) {
            if (line.startsWith("```")) {
                within = !within && line.equals("```" + language);
            } else if (within) {
                inside.append(line).append('\n');
            }
        }
        return inside.toString();
    }

    /** What a program prints (its faults, too) that must end well. */
    private static String run(String... words) throws Exception {
        Process run = new ProcessBuilder(words).redirectErrorStream(true).start();
        ByteArrayOutputStream out = new ByteArrayOutputStream();
        run.getInputStream().transferTo(out);
        String printed = out.toString(StandardCharsets.UTF_8);
        Check.due(words[0] + " of the example, which printed [" + printed + "]", run.waitFor(), 0);
        return printed;
    }

    private static String printed(Path room) throws Exception {
        Path source = room.resolve("Lamp.java");
        Files.writeString(source, block("java"));
        String classes = room.toString();
        run("javac", "-encoding", "UTF-8", "-d", classes, "src/main/java/ThreeAwake.java", source.toString());
        return run("java", "-cp", classes, "Lamp");
    }

    private static void remove(Path room) throws IOException {
        List<Path> all = new ArrayList<>();
        try (Stream<Path> inside = Files.walk(room)) {
            inside.sorted(Comparator.reverseOrder()).forEach(all::add);
        }
        for (Path one : all) {
            Files.delete(one);
        }
    }

    private static void example() throws Exception {
        Path room = Files.createTempDirectory("readme");
        try {
            String[] got = printed(room).split("\n", -1);
            String[] want = block("text").split("\n", -1);
            Check.dueTrue("something is printed", want.length > 10);
            Check.due("lines that the example prints", got.length, want.length);
            for (int i = 0; i < Math.min(got.length, want.length); i++) {
                Check.dueTrue("[" + got[i] + "] is printed as [" + want[i] + "]", got[i].equals(want[i]));
            }
        } finally {
            remove(room);
        }
    }

    /** Each constant stands in the table of answers with its number. */
    private static void answers() {
        Check.dueTrue("BAD", readme.contains("`BAD` " + ThreeAwake.BAD + " "));
        Check.dueTrue("STATE", readme.contains("`STATE` " + ThreeAwake.STATE + " "));
        Check.dueTrue("FULL", readme.contains("`FULL` " + ThreeAwake.FULL + " "));
        Check.dueTrue("NONE", readme.contains("`NONE` " + ThreeAwake.NONE + " "));
    }

    private static void names() {
        Check.dueTrue("the tests are run by .ci/run", readme.contains("    .ci/run\n"));
        Check.dueTrue(".ci/run can be run", Files.isExecutable(Path.of(".ci/run")));
        for (String helper : new String[] {"Check", "Seen", "Model"}) {
            Check.dueTrue(helper + " is named", readme.contains("`" + helper + "`"));
            Check.dueTrue(helper + " is there", Files.exists(Path.of("src/test/helpers/" + helper + ".java")));
        }
        Check.dueTrue("ModelTest is there", Files.exists(Path.of("src/test/java/ModelTest.java")));
    }

    public static void main(String[] args) throws Exception {
        readme = Files.readString(Path.of("README.md"));
        example();
        answers();
        names();
        Check.finish();
    }
}

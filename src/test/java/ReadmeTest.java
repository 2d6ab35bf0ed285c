import java.io.File;
import java.io.IOException;
import java.nio.file.Files;
import java.nio.file.Path;
import java.util.ArrayList;
import java.util.Arrays;
import java.util.HashSet;
import java.util.List;
import java.util.Set;
import java.util.regex.Matcher;
import java.util.regex.Pattern;

/**
 * What README.md says is so: the calls it shows answer what it says, and the command it names for
 * the tests is the one that runs them. It is read from the folder in which .ci/run runs the tests.
 */
public final class ReadmeTest {
    private static final String FENCE = "```";
    private static final String NEW_OBJECT = "PersistentBars bars = new PersistentBars();";
    private static final Pattern CALL =
            Pattern.compile("bars\\.(\\w+)\\(((?:-?\\d+(?:, -?\\d+)*)?)\\); *// (-?\\d+): .+");
    private static final Pattern FILE_NAME = Pattern.compile("\\w+\\.java");
    private static final String TEST_FOLDER = "src/test/java";

    private static final Checks CHECKS = new Checks();

    public static void main(String[] args) throws IOException {
        List<String> lines = Files.readAllLines(Path.of("README.md"));
        Set<String> shown = new HashSet<>();
        for (List<String> block : blocks(lines, "java")) {
            makeCalls(block, shown);
        }
        everyMethodIsShown(shown);
        List<String> aboutTests = section(lines, "## Tests");
        theCommandRunsTheTests(blocks(aboutTests, "sh"));
        theTestsAreListed(aboutTests);
        CHECKS.end();
    }

    /** The lines between the fences of each block of a language. */
    private static List<List<String>> blocks(List<String> lines, String language) {
        List<List<String>> blocks = new ArrayList<>();
        List<String> open = null;
        boolean outside = true;
        for (String line : lines) {
            if (!line.startsWith(FENCE)) {
                if (open != null) {
                    open.add(line);
                }
            } else if (outside && line.equals(FENCE + language)) {
                open = new ArrayList<>();
                blocks.add(open);
                outside = false;
            } else {
                open = null;
                outside = !outside;
            }
        }
        return blocks;
    }

    /** The lines from a heading to the next one. */
    private static List<String> section(List<String> lines, String heading) {
        List<String> section = new ArrayList<>();
        boolean inside = false;
        for (String line : lines) {
            inside = line.startsWith("## ") ? line.equals(heading) : inside;
            if (inside) {
                section.add(line);
            }
        }
        return section;
    }

    /** A line that is not understood is an error: otherwise its call would go untested. */
    private static void makeCalls(List<String> block, Set<String> shown) {
        isSo("a block of calls begins with a new object", NEW_OBJECT.equals(block.get(0)));
        Probe probe = new Probe(CHECKS);
        for (String line : block.subList(1, block.size())) {
            Matcher call = CALL.matcher(line);
            boolean understood = call.matches() && isInFace(call.group(1), numbers(call.group(2)).length);
            isSo("a call, its answer and words in '" + line + "'", understood);
            if (understood) {
                probe.due(Integer.parseInt(call.group(3)), call.group(1), numbers(call.group(2)));
                shown.add(call.group(1));
            }
        }
    }

    private static int[] numbers(String list) {
        return list.isEmpty() ? new int[0] : Arrays.stream(list.split(", ")).mapToInt(Integer::parseInt).toArray();
    }

    private static boolean isInFace(String method, int parameters) {
        return Arrays.stream(PersistentBars.class.getMethods())
                .anyMatch(m -> m.getName().equals(method) && m.getParameterCount() == parameters);
    }

    private static void everyMethodIsShown(Set<String> shown) {
        Arrays.stream(PersistentBars.class.getMethods())
                .filter(method -> method.getDeclaringClass() == PersistentBars.class)
                .forEach(method -> isSo(method.getName() + " is shown", shown.contains(method.getName())));
    }

    private static void theCommandRunsTheTests(List<List<String>> commands) throws IOException {
        isSo("one command for the tests", commands.size() == 1 && commands.get(0).size() == 1);
        Path named = Path.of(commands.get(0).get(0));
        String runBy = System.getProperty("tests.run.by", "");
        isSo("'" + named + "' can be run", Files.isExecutable(named));
        isSo("'" + named + "' is what runs this test, '" + runBy + "'",
                !runBy.isEmpty() && Files.isSameFile(named, Path.of(runBy)));
    }

    private static void theTestsAreListed(List<String> aboutTests) {
        Set<String> listed = new HashSet<>();
        Matcher name = FILE_NAME.matcher(String.join("\n", aboutTests));
        while (name.find()) {
            listed.add(name.group());
        }
        // No file, but the ending of the names of tests, which is told there too.
        listed.remove("Test.java");
        Set<String> there = new HashSet<>(Arrays.asList(new File(TEST_FOLDER).list()));
        for (String file : listed) {
            isSo("the file " + file + " is there", there.contains(file));
        }
        for (String file : there) {
            isSo("the test " + file + " is listed", !file.endsWith("Test.java") || listed.contains(file));
        }
    }

    private static void isSo(String what, boolean so) {
        CHECKS.due("README.md: " + what + " (1 if so)", so ? 1 : 0, 1);
    }
}

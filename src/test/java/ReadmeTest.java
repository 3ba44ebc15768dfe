import java.io.ByteArrayOutputStream;
import java.io.File;
import java.io.IOException;
import java.io.PrintStream;
import java.lang.reflect.Method;
import java.lang.reflect.Modifier;
import java.nio.file.Files;
import java.nio.file.Path;
import java.util.Set;
import java.util.TreeSet;
import java.util.regex.Matcher;
import java.util.regex.Pattern;

/** What README.md says of using the class and of running its tests is so. */
final class ReadmeTest {
    private static final Checks CHECKS = new Checks();
    private static final Path TESTS = Path.of("src/test/java");

    public static void main(String[] args) throws IOException {
        String readme = Files.readString(Path.of("README.md"));
        exampleIsTheFile(readme);
        examplePrintsWhatIsSaid(readme);
        callsAreTold(readme);
        testsAreTold(readme);
        filesAreThere(readme);
        CHECKS.end();
    }

    private static void exampleIsTheFile(String readme) throws IOException {
        String file = Files.readString(TESTS.resolve("Example.java"));
        CHECKS.due("the example is Example.java", block(readme, "java").equals(file));
    }

    private static void examplePrintsWhatIsSaid(String readme) {
        ByteArrayOutputStream printed = new ByteArrayOutputStream();
        PrintStream before = System.out;
        System.setOut(new PrintStream(printed, true));
        Example.main(new String[0]);
        System.setOut(before);
        String got = printed.toString().replace(System.lineSeparator(), "\n");
        String said = block(readme, "text");
        CHECKS.due("the example printed\n" + got + "and README.md says\n" + said + "which are alike",
                got.equals(said));
    }

    /** Each call of the face stands first in a row of the table of calls, with as many parameters. */
    private static void callsAreTold(String readme) {
        for (Method method : LazyBuilder.class.getDeclaredMethods()) {
            if (Modifier.isPublic(method.getModifiers())) {
                String row = "(?m)^\\| `" + method.getName() + "\\((.*?)\\)` \\|";
                Matcher told = Pattern.compile(row).matcher(readme);
                boolean found = told.find();
                CHECKS.due("there is a row of " + method, found);
                CHECKS.due("parameters told of " + method,
                        found && !told.group(1).isEmpty() ? told.group(1).split(", ").length : 0,
                        method.getParameterCount());
            }
        }
    }

    private static void testsAreTold(String readme) {
        Set<String> told = new TreeSet<>();
        Matcher names = Pattern.compile("`(\\w+Test)`").matcher(readme);
        while (names.find()) {
            told.add(names.group(1));
        }
        Set<String> there = new TreeSet<>();
        for (File file : TESTS.toFile().listFiles()) {
            if (file.getName().endsWith("Test.java")) {
                there.add(file.getName().replace(".java", ""));
            }
        }
        CHECKS.due("the tests " + there + " are those told, " + told, told.equals(there));
    }

    /** The commands that README.md tells name files and tests that are there. */
    private static void filesAreThere(String readme) {
        Matcher files = Pattern.compile("src/[\\w/]+\\.java").matcher(readme);
        while (files.find()) {
            CHECKS.due(files.group() + " is there", Files.isRegularFile(Path.of(files.group())));
        }
        Matcher classes = Pattern.compile("(?m)^java -cp \\S+ (\\w+)$").matcher(readme);
        while (classes.find()) {
            CHECKS.due("the class of: " + classes.group(),
                    Files.isRegularFile(TESTS.resolve(classes.group(1) + ".java")));
        }
        CHECKS.due(".ci/run can be run", Files.isExecutable(Path.of(".ci/run")));
    }

    /** The text of the first block of the kind. */
    private static String block(String readme, String kind) {
        String opening = "```" + kind + "\n";
        int from = readme.indexOf(opening);
        int to = readme.indexOf("```\n", from + opening.length());
        if (from < 0 || to < 0) {
            return "no block of " + kind + "\n";
        }
        return readme.substring(from + opening.length(), to);
    }
}

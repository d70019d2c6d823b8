import java.lang.reflect.Method;
import java.lang.reflect.Modifier;
import java.nio.file.Files;
import java.nio.file.Path;
import java.util.List;
import java.util.Set;
import java.util.TreeSet;
import java.util.regex.Matcher;
import java.util.regex.Pattern;
import javax.tools.JavaCompiler;
import javax.tools.StandardJavaFileManager;
import javax.tools.ToolProvider;

/** That the code in README.md compiles, that its calls answer as it says, and that it shows what it must. */
public final class ReadmeTest {
    private static final Pattern BLOCK = Pattern.compile("(?ms)^```java( helper)?\n(.*?)^```$");
    private static final Pattern ROW = Pattern.compile("^((?:x\\.(\\w+)|read)\\(.*\\)); +// (-?\\d+).*$");
    private static final int MOST_CALLS = 512;

    private final StringBuilder helpers = new StringBuilder();
    private final StringBuilder rows = new StringBuilder();
    private final Set<String> called = new TreeSet<>();
    private int calls;

    private ReadmeTest() {
    }

    public static void main(String[] args) throws Exception {
        String readme = Files.readString(Path.of("README.md"));
        ReadmeTest test = new ReadmeTest();
        test.takeBlocks(readme);
        test.compileAndRun();
        test.lookAtWhatIsShown(readme);
        Check.end();
    }

    private void takeBlocks(String readme) {
        Matcher block = BLOCK.matcher(readme);
        while (block.find()) {
            if (block.group(1) != null) {
                helpers.append(block.group(2));
            } else {
                block.group(2).lines().forEach(this::takeRow);
            }
        }
    }

    /** A call with its answer becomes a comparison; other rows stay as they are. */
    private void takeRow(String row) {
        Matcher call = ROW.matcher(row);
        if (!call.matches()) {
            Check.holds("an answer stands behind: " + row, !row.startsWith("x.") && !row.startsWith("read("));
            rows.append(row).append('\n');
            return;
        }
        calls++;
        if (call.group(2) != null) {
            called.add(call.group(2));
        }
        String words = call.group(1).replace("\"", "'");
        rows.append("Check.due(\"").append(words).append("\", ").append(call.group(1)).append(", ").append(call.group(3)).append("L);\n");
    }

    /** The code goes where this class is, so that it is one package with the helpers of tests. */
    private void compileAndRun() throws Exception {
        Path classes = Path.of(ReadmeTest.class.getProtectionDomain().getCodeSource().getLocation().toURI());
        Path source = Files.createTempDirectory("readme").resolve("ReadmeCode.java");
        Files.writeString(source, "final class ReadmeCode {\n" + helpers + "static void run() {\n" + rows + "}\n}\n");
        JavaCompiler compiler = ToolProvider.getSystemJavaCompiler();
        boolean fine;
        try (StandardJavaFileManager files = compiler.getStandardFileManager(null, null, null)) {
            List<String> options = List.of("-proc:none", "-cp", classes.toString(), "-d", classes.toString());
            fine = compiler.getTask(null, files, null, options, null, files.getJavaFileObjects(source.toFile())).call();
        }
        Files.delete(source);
        Files.delete(source.getParent());
        Check.holds("the code of README.md compiles", fine);
        if (fine) {
            Method run = Class.forName("ReadmeCode").getDeclaredMethod("run");
            run.setAccessible(true);
            run.invoke(null);
        }
    }

    private void lookAtWhatIsShown(String readme) {
        Check.holds("rows of one object, far fewer than it is good for", calls > 0 && calls < MOST_CALLS / 2);
        for (Method m : PartyLine.class.getDeclaredMethods()) {
            if (Modifier.isPublic(m.getModifiers())) {
                Check.holds("README.md shows " + m.getName() + "()", called.contains(m.getName()) || helpers.indexOf("x." + m.getName() + "(") >= 0);
            }
        }
        for (String code : new String[] {"-2", "-3", "-4", "-5", "-6", "-7", "-11", "-12", "-13", "-31 to -34", "-99000002"}) {
            Check.holds("README.md tells code " + code, readme.contains("\n| " + code + " |"));
        }
        Check.holds("README.md tells how to run the tests", readme.contains("`.ci/run`"));
    }
}

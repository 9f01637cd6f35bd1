import java.io.ByteArrayOutputStream;
import java.io.PrintStream;
import java.net.URL;
import java.net.URLClassLoader;
import java.nio.file.Files;
import java.nio.file.Path;
import java.util.regex.Matcher;
import java.util.regex.Pattern;
import javax.tools.ToolProvider;

/** README.md: its program compiles as it says and prints what it says, and its table tells the answers below 0 as they are. */
public final class ReadmeTest {
    private static final String[] FINDINGS = {"NULL", "PLACE", "KIND", "SIZE", "STORE"};

    private static int wrong = 0;

    public static void main(String[] args) throws Exception {
        String readme = Files.readString(Path.of("README.md"));
        printsAsTold(block(readme, "java"), block(readme, "text"));
        row(readme, TableFirms.NONE, "`NONE`");
        row(readme, TableFirms.BAD, "`BAD`");
        row(readme, TableFirms.STATE, "`STATE`");
        row(readme, TableFirms.FULL, "`FULL`");
        for (int i = 0; i < FINDINGS.length; i++) {
            row(readme, -1000011 - i, FINDINGS[i]);
        }
        check(readme.contains("    .ci/run\n"), "README.md does not say how the tests are run");
        System.out.println(wrong == 0 ? "README.md is as the class is" : wrong + " things of README.md are not so");
        if (wrong != 0) {
            System.exit(1);
        }
    }

    private static String block(String readme, String language) {
        Matcher found = Pattern.compile("(?s)```" + language + "\n(.*?)```").matcher(readme);
        check(found.find(), "README.md has no block of " + language);
        return found.group(1);
    }

    private static void row(String readme, int answer, String name) {
        check(readme.contains("| " + answer + " | " + name + " |"), "README.md does not tell " + name);
    }

    private static void printsAsTold(String program, String told) throws Exception {
        Path out = Path.of("build", "readme");
        Files.createDirectories(out);
        Path source = out.resolve("Example.java");
        Files.writeString(source, program);
        int ended = ToolProvider.getSystemJavaCompiler().run(null, null, null,
            "-d", out.toString(), "src/main/java/TableFirms.java", source.toString());
        check(ended == 0, "the program does not compile");
        PrintStream before = System.out;
        ByteArrayOutputStream printed = new ByteArrayOutputStream();
        try (URLClassLoader loader = new URLClassLoader(new URL[] {out.toUri().toURL()}, ClassLoader.getPlatformClassLoader())) {
            System.setOut(new PrintStream(printed, true));
            loader.loadClass("Example").getMethod("main", String[].class).invoke(null, (Object) new String[0]);
        } finally {
            System.setOut(before);
        }
        String answers = printed.toString().replace("\r\n", "\n");
        check(answers.equals(told), "the program prints\n" + answers);
    }

    private static void check(boolean holds, String what) {
        if (!holds) {
            wrong++;
            System.out.println(what);
        }
    }
}

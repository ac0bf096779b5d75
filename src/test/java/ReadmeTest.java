import java.io.ByteArrayOutputStream;
import java.io.PrintStream;
import java.net.URL;
import java.net.URLClassLoader;
import java.nio.file.Files;
import java.nio.file.Path;
import java.util.ArrayList;
import java.util.List;
import java.util.regex.Matcher;
import java.util.regex.Pattern;
import javax.tools.ToolProvider;

/** The program in README.md is compiled and run: each line that it prints is the number in the comment behind it. */
public final class ReadmeTest {
    private static final Pattern PRINTED = Pattern.compile("System\\.out\\.println\\((.*)\\);\\s*// (-?\\d+):");

    public static void main(String[] args) throws Exception {
        String readme = Files.readString(Path.of("README.md"));
        int begin = readme.indexOf("```java\n") + 8;
        String program = readme.substring(begin, readme.indexOf("```", begin));
        List<String> calls = new ArrayList<>();
        List<String> due = new ArrayList<>();
        Matcher printed = PRINTED.matcher(program);
        while (printed.find()) {
            calls.add(printed.group(1));
            due.add(printed.group(2));
        }
        int lines = program.split("System\\.out\\.println", -1).length - 1;
        if (lines != due.size()) fail(lines - due.size() + " lines of the program don't say what they print");
        List<String> got = List.of(output(program).split("\n"));
        if (got.size() != due.size()) fail(got.size() + " lines printed, " + due.size() + " are due");
        for (int i = 0; i < due.size(); i++) {
            if (!got.get(i).equals(due.get(i))) fail(calls.get(i) + " answered " + got.get(i) + ", README.md says " + due.get(i));
        }
        System.out.println(due.size() + " answers of README.md hold");
    }

    private static String output(String program) throws Exception {
        Path room = Files.createTempDirectory("readme");
        Path file = Files.writeString(room.resolve("Example.java"), program);
        int code = ToolProvider.getSystemJavaCompiler().run(null, null, null,
            "-cp", System.getProperty("java.class.path"), "-d", room.toString(), file.toString());
        if (code != 0) fail("the program in README.md doesn't compile");
        PrintStream screen = System.out;
        ByteArrayOutputStream taken = new ByteArrayOutputStream();
        try (URLClassLoader loader = new URLClassLoader(new URL[] {room.toUri().toURL()}); PrintStream into = new PrintStream(taken)) {
            System.setOut(into);
            loader.loadClass("Example").getMethod("main", String[].class).invoke(null, (Object) new String[0]);
        } finally {
            System.setOut(screen);
        }
        try (var files = Files.list(room)) {
            for (Path left : files.toList()) Files.delete(left);
        }
        Files.delete(room);
        return taken.toString();
    }

    private static void fail(String what) {
        System.out.println(what);
        System.exit(1);
    }
}

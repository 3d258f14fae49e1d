import java.io.ByteArrayOutputStream;
import java.io.PrintStream;
import java.lang.reflect.Method;
import java.lang.reflect.Modifier;
import java.net.URL;
import java.net.URLClassLoader;
import java.nio.file.Files;
import java.nio.file.Path;
import java.util.ArrayList;
import java.util.Collections;
import java.util.List;
import java.util.Set;
import java.util.TreeSet;
import java.util.regex.Matcher;
import java.util.regex.Pattern;
import java.util.stream.Stream;
import javax.tools.JavaCompiler;
import javax.tools.ToolProvider;

/** The README's program is compiled and run, and answers as the README says; it names the calls and the tests there are. */
public final class ReadmeTest {
    private static int wrong;

    public static void main(String[] args) throws Exception {
        String readme = Files.readString(Path.of("README.md"));
        String program = block(readme, "java");
        int answers = compare(said(program), shown(run(program)));
        calls(readme);
        tests(readme);
        System.out.println(wrong == 0 ? answers + " answers are as README.md says" : wrong + " faults");
        if (wrong != 0) System.exit(1);
    }

    private static void fail(String why) {
        wrong++;
        System.out.println(why);
    }

    private static String block(String readme, String language) {
        Matcher m = Pattern.compile("^```" + language + "\n(.*?)^```$", Pattern.MULTILINE | Pattern.DOTALL).matcher(readme);
        if (!m.find()) throw new IllegalStateException("README.md has no block of " + language);
        String first = m.group(1);
        if (m.find()) fail("README.md has a second block of " + language + ", which is not run");
        return first;
    }

    /** The answers that stand behind the calls, in their order. */
    private static List<String> said(String program) {
        List<String> all = new ArrayList<>();
        for (String line : program.split("\n")) {
            Matcher m = Pattern.compile("// (-?\\d+): .*$").matcher(line);
            if (m.find()) all.add(m.group(1));
        }
        return all;
    }

    private static List<String> shown(String output) {
        return output.lines().toList();
    }

    private static int compare(List<String> said, List<String> shown) {
        for (int i = 0; i < Math.max(said.size(), shown.size()); i++) {
            String due = i < said.size() ? said.get(i) : "nothing";
            String got = i < shown.size() ? shown.get(i) : "nothing";
            if (!due.equals(got)) fail("answer " + (i + 1) + " of the program is " + got + ", README.md says " + due);
        }
        return said.size();
    }

    private static String run(String program) throws Exception {
        Path folder = Files.createTempDirectory("readme");
        Path source = Files.writeString(folder.resolve("Example.java"), program);
        JavaCompiler compiler = ToolProvider.getSystemJavaCompiler();
        int code = compiler.run(null, null, null, "-cp", System.getProperty("java.class.path"), "-d", folder.toString(), source.toString());
        if (code != 0) {
            fail("the program of README.md is not compiled");
            return "";
        }
        PrintStream before = System.out;
        ByteArrayOutputStream output = new ByteArrayOutputStream();
        try (URLClassLoader loader = new URLClassLoader(new URL[] {folder.toUri().toURL()})) {
            System.setOut(new PrintStream(output, true));
            loader.loadClass("Example").getMethod("main", String[].class).invoke(null, (Object) new String[0]);
        } finally {
            System.setOut(before);
        }
        try (Stream<Path> files = Files.list(folder)) {
            for (Path file : files.toList()) Files.delete(file);
        }
        Files.delete(folder);
        return output.toString();
    }

    /** Each call of the face stands in the table once. */
    private static void calls(String readme) {
        List<String> told = new ArrayList<>();
        Matcher row = Pattern.compile("^\\| [^|`]+ \\| (.*`.*) \\|$", Pattern.MULTILINE).matcher(readme);
        while (row.find()) {
            Matcher name = Pattern.compile("`(\\w+)`").matcher(row.group(1));
            while (name.find()) told.add(name.group(1));
        }
        List<String> there = new ArrayList<>();
        for (Method m : PuppetHeirs.class.getDeclaredMethods()) {
            if (Modifier.isPublic(m.getModifiers())) there.add(m.getName());
        }
        Collections.sort(told);
        Collections.sort(there);
        if (!told.equals(there)) fail("README.md names the calls " + told + ", there are " + there);
    }

    private static void tests(String readme) throws Exception {
        Set<String> told = new TreeSet<>();
        Matcher m = Pattern.compile("`(\\w+Test)`").matcher(readme);
        while (m.find()) told.add(m.group(1));
        Set<String> there = new TreeSet<>();
        try (Stream<Path> files = Files.list(Path.of("src/test/java"))) {
            for (Path file : files.toList()) {
                String name = file.getFileName().toString();
                if (name.endsWith("Test.java")) there.add(name.substring(0, name.length() - 5));
            }
        }
        if (!told.equals(there)) fail("README.md names the tests " + told + ", there are " + there);
    }
}

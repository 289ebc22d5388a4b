import java.io.IOException;
import java.lang.reflect.InvocationTargetException;
import java.lang.reflect.Method;
import java.lang.reflect.Modifier;
import java.net.URL;
import java.net.URLClassLoader;
import java.nio.file.Files;
import java.nio.file.Path;
import java.util.ArrayList;
import java.util.List;
import java.util.regex.Matcher;
import java.util.regex.Pattern;
import javax.tools.ToolProvider;

/** The code in README.md is compiled and run: each call answers what stands behind it. Its table has all calls. */
public final class ReadmeTest {
    private static final Pattern BLOCK = Pattern.compile("(?s)```java\n(.*?)```");
    /** A call, perhaps kept under a name, and what it answers. */
    private static final Pattern ANSWERED =
            Pattern.compile("(?:int (\\w+) = )?(\\w[^;]*\\(.*\\));\\s+// (-?\\d+|true|false): .*");
    private static final String NAME = "ReadmeCode";

    public static void main(String[] args) throws IOException, ReflectiveOperationException {
        String readme = Files.readString(Path.of("README.md"));
        run(code(readme));
        for (Method m : ThumbHedges.class.getDeclaredMethods()) {
            if (Modifier.isPublic(m.getModifiers())) {
                Check.due("README.md tells of " + m.getName(), readme.contains("`" + m.getName() + "`"), true);
            }
        }
        Check.end("ReadmeTest");
    }

    /** Blocks that begin with static are methods; the lines of all others are run one behind the other. */
    private static String code(String readme) {
        StringBuilder methods = new StringBuilder();
        StringBuilder lines = new StringBuilder();
        Matcher block = BLOCK.matcher(readme);
        while (block.find()) {
            boolean isMethods = block.group(1).startsWith("static ");
            (isMethods ? methods : lines).append(isMethods ? block.group(1) : noted(block.group(1)));
        }
        return "public final class " + NAME + " {\n" + methods
                + "public static void run(java.util.List<Object> all) {\n" + lines + "}\n}\n";
    }

    /** Each call with an answer behind it puts what it is, what it answers and what is due into the list. */
    private static String noted(String block) {
        StringBuilder noted = new StringBuilder();
        for (String line : block.split("\n")) {
            Matcher m = ANSWERED.matcher(line);
            if (!m.matches()) {
                noted.append(line).append('\n');
                continue;
            }
            String kept = m.group(1);
            if (kept != null) {
                noted.append("int ").append(kept).append(" = ").append(m.group(2)).append(";\n");
            }
            noted.append("all.add(\"").append(m.group(2).replace("\"", "'")).append("\");\n");
            noted.append("all.add(").append(kept == null ? m.group(2) : kept).append(");\n");
            noted.append("all.add(").append(m.group(3)).append(");\n");
        }
        return noted.toString();
    }

    private static void run(String code) throws IOException, ReflectiveOperationException {
        Path folder = Files.createTempDirectory("readme");
        Path source = folder.resolve(NAME + ".java");
        try {
            Files.writeString(source, code);
            int failed = ToolProvider.getSystemJavaCompiler().run(null, null, null, "-cp",
                    System.getProperty("java.class.path"), "-d", folder.toString(), source.toString());
            Check.due("the code in README.md compiles", failed, 0);
            if (failed == 0) {
                compare(folder);
            }
        } finally {
            Files.deleteIfExists(source);
            Files.deleteIfExists(folder.resolve(NAME + ".class"));
            Files.deleteIfExists(folder);
        }
    }

    private static void compare(Path folder) throws IOException, ReflectiveOperationException {
        List<Object> all = new ArrayList<>();
        URL[] where = {folder.toUri().toURL()};
        try (URLClassLoader loader = new URLClassLoader(where, ReadmeTest.class.getClassLoader())) {
            loader.loadClass(NAME).getMethod("run", List.class).invoke(null, all);
        } catch (InvocationTargetException e) {
            Check.due("the code in README.md throws " + e.getCause(), true, false);
        }
        Check.due("README.md has calls with their answers", all.size() > 3 * 20, true);
        for (int i = 0; i + 2 < all.size(); i += 3) {
            String said = "README.md: " + all.get(i) + " answered " + all.get(i + 1) + ", it says " + all.get(i + 2);
            Check.due(said, all.get(i + 1).equals(all.get(i + 2)), true);
        }
    }
}

import java.io.IOException;
import java.lang.reflect.Method;
import java.lang.reflect.Modifier;
import java.net.URL;
import java.net.URLClassLoader;
import java.nio.file.Files;
import java.nio.file.Path;
import java.util.Comparator;
import java.util.List;
import java.util.regex.Matcher;
import java.util.regex.Pattern;
import java.util.stream.Stream;
import javax.tools.JavaCompiler;
import javax.tools.ToolProvider;

/** What README.md says is so: its code compiles, each call answers as told behind it, what it names is there. */
public final class ReadmeTest {
    private static final Pattern BLOCK = Pattern.compile("(?s)```java\n(.*?)```");
    private static final Pattern ANSWERED = Pattern.compile("(\\s*)(x\\.\\w+\\(.*\\)); +// (-?\\d+|[A-Z]+)(:.*)?");
    private static final Pattern NAMED = Pattern.compile("`([^`\n]+)`");
    private static final Path TESTS = Path.of("src/test/java");

    private ReadmeTest() {
    }

    public static void main(String[] args) throws IOException, ReflectiveOperationException {
        String readme = Files.readString(Path.of("README.md"));
        String code = codeOf(readme);
        Path dir = Files.createTempDirectory("readme");
        try {
            compiled(dir, "AsItStands", "public static void run() {\n" + code + "}\n");
            answers(dir, asking(code));
        } finally {
            delete(dir);
        }
        namesAllCalls(readme);
        namesAllTests(readme);
        namedFilesAreThere(readme);
        Check.end("ReadmeTest");
    }

    private static String codeOf(String readme) {
        StringBuilder code = new StringBuilder();
        Matcher m = BLOCK.matcher(readme);
        while (m.find()) {
            code.append(m.group(1));
        }
        return code.toString();
    }

    /** The same code, but each call is noted with its answer and the one that is told. */
    private static String asking(String code) {
        StringBuilder asking = new StringBuilder();
        for (String line : code.split("\n")) {
            Matcher m = ANSWERED.matcher(line);
            boolean answered = m.matches();
            Check.dueTrue("README tells the answer: " + line.trim(), answered || !line.contains("x."));
            asking.append(answered ? noted(m) : line).append('\n');
        }
        return asking.toString();
    }

    private static String noted(Matcher m) {
        String told = Character.isLetter(m.group(3).charAt(0)) ? "ToppleYard." + m.group(3) : m.group(3);
        return m.group(1) + "all.add(new Object[] {\"" + m.group(2) + "\", (long) " + m.group(2) + ", (long) " + told + "});";
    }

    private static boolean compiled(Path dir, String name, String body) throws IOException {
        Path file = dir.resolve(name + ".java");
        Files.writeString(file, "public final class " + name + " {\n" + body + "}\n");
        JavaCompiler javac = ToolProvider.getSystemJavaCompiler();
        boolean done = javac != null && javac.run(null, null, null, "-cp", System.getProperty("java.class.path"),
                "-d", dir.toString(), file.toString()) == 0;
        Check.dueTrue("README's code compiles, " + name, done);
        return done;
    }

    private static void answers(Path dir, String code) throws IOException, ReflectiveOperationException {
        String body = "public static void run(java.util.List<Object[]> all) {\n" + code + "}\n";
        if (!compiled(dir, "Asking", body)) {
            return;
        }
        List<Object[]> all = new java.util.ArrayList<>();
        try (URLClassLoader loader = new URLClassLoader(new URL[] {dir.toUri().toURL()}, ReadmeTest.class.getClassLoader())) {
            loader.loadClass("Asking").getMethod("run", List.class).invoke(null, all);
        }
        for (Object[] one : all) {
            Check.due("README: " + one[0], (Long) one[1], (Long) one[2]);
        }
        Check.dueTrue("README has calls, and no more than an object is used for", all.size() > 0 && all.size() <= 512);
    }

    private static void delete(Path dir) throws IOException {
        try (Stream<Path> within = Files.walk(dir)) {
            for (Path path : within.sorted(Comparator.reverseOrder()).toList()) {
                Files.delete(path);
            }
        }
    }

    private static void namesAllCalls(String readme) {
        for (Method m : ToppleYard.class.getDeclaredMethods()) {
            if (Modifier.isPublic(m.getModifiers())) {
                Matcher named = Pattern.compile("`" + m.getName() + "\\(([^)]*)\\)`").matcher(readme);
                boolean found = false;
                while (named.find()) {
                    int count = named.group(1).isEmpty() ? 0 : named.group(1).split(",").length;
                    found |= count == m.getParameterCount();
                }
                Check.dueTrue("README names " + m.getName() + " with what it takes", found);
            }
        }
    }

    private static void namesAllTests(String readme) throws IOException {
        try (Stream<Path> files = Files.list(TESTS)) {
            for (Path file : files.sorted().toList()) {
                String name = file.getFileName().toString().replace(".java", "");
                Check.dueTrue("README names " + name, readme.contains("`" + name + "`"));
            }
        }
    }

    /** A name of a class of the tests begins with a capital letter and has small ones; a path has a slash. */
    private static void namedFilesAreThere(String readme) {
        Matcher m = NAMED.matcher(readme.replaceAll("(?s)```.*?```", ""));
        while (m.find()) {
            String name = m.group(1);
            if (name.matches("[A-Z]\\w*[a-z]\\w*")) {
                Check.dueTrue(name + " is there", Files.exists(TESTS.resolve(name + ".java")));
            } else if (name.contains("/") && !name.contains("*")) {
                Check.dueTrue(name + " is there", Files.exists(Path.of(name)));
            }
        }
    }
}

import java.io.IOException;
import java.lang.reflect.Field;
import java.lang.reflect.Method;
import java.net.URL;
import java.net.URLClassLoader;
import java.nio.file.Files;
import java.nio.file.Path;
import java.util.ArrayList;
import java.util.Comparator;
import java.util.List;
import java.util.Set;
import java.util.TreeSet;
import java.util.regex.Matcher;
import java.util.regex.Pattern;
import java.util.stream.Stream;
import javax.tools.JavaCompiler;
import javax.tools.ToolProvider;

/** README.md: what it shows as calls and answers is what the class answers, and it names what there is. */
public final class ReadmeTest {
    private static final Pattern SHOWN = Pattern.compile("^(x\\.(\\w+)\\(.*\\)); +// (-?\\d+)\\b.*$");
    private static final Pattern CALLED = Pattern.compile("x\\.(\\w+)\\(");
    private static int wrong = 0;

    public static void main(String[] args) throws Exception {
        String readme = Files.readString(Path.of("README.md"));
        List<String> example = example(readme);
        namesEveryCall(example);
        namesEveryConstant(readme);
        namesEveryTest(readme);
        saysHowToTest(readme);
        answersAsShown(example);
        System.out.println(wrong == 0 ? "README.md says what is so" : wrong + " things in README.md are not so");
        System.exit(wrong == 0 ? 0 : 1);
    }

    private static void fault(String words) {
        wrong++;
        System.out.println(words);
    }

    private static List<String> example(String readme) {
        List<String> found = new ArrayList<>();
        boolean inside = false;
        for (String line : readme.split("\n")) {
            if (line.startsWith("```")) inside = line.equals("```java");
            else if (inside) found.add(line);
        }
        return found;
    }

    private static void namesEveryCall(List<String> example) {
        Set<String> called = new TreeSet<>();
        for (String line : example) {
            Matcher call = CALLED.matcher(line);
            while (call.find()) called.add(call.group(1));
        }
        for (Method method : ReachLabels.class.getDeclaredMethods()) {
            boolean isPublic = java.lang.reflect.Modifier.isPublic(method.getModifiers());
            if (isPublic && !called.contains(method.getName())) fault("README.md does not show " + method.getName());
        }
    }

    private static void namesEveryConstant(String readme) throws IllegalAccessException {
        for (Field field : ReachLabels.class.getFields()) {
            String words = "`" + field.getName() + "` (" + field.getInt(null);
            if (!readme.contains(words)) fault("README.md does not say " + words + ")");
        }
    }

    private static void namesEveryTest(String readme) throws IOException {
        Set<String> tests = new TreeSet<>();
        try (Stream<Path> files = Files.list(Path.of("src/test/java"))) {
            files.map(file -> file.getFileName().toString()).filter(name -> name.endsWith("Test.java"))
                .forEach(name -> tests.add(name.substring(0, name.length() - ".java".length())));
        }
        for (String test : tests) if (!readme.contains("`" + test + "`")) fault("README.md does not name " + test);
        Matcher named = Pattern.compile("`(\\w+Test)`").matcher(readme);
        while (named.find()) if (!tests.contains(named.group(1))) fault("there is no test " + named.group(1));
    }

    private static void saysHowToTest(String readme) {
        if (!readme.contains("\n    .ci/run\n")) fault("README.md does not say how the tests are run");
        if (!Files.isExecutable(Path.of(".ci/run"))) fault(".ci/run can't be run");
    }

    /** The example is compiled as it stands, but that each call with an answer behind it is held against that. */
    private static void answersAsShown(List<String> example) throws Exception {
        StringBuilder body = new StringBuilder("public final class ReadmeExample {\npublic static int wrong = 0;\n"
            + "static void due(String call, int got, int want) {\nif (got == want) return;\nwrong++;\n"
            + "System.out.println(\"README.md: \" + call + \" answered \" + got + \", it says \" + want);\n}\n"
            + "public static void run() {\n");
        for (String line : example) {
            Matcher shown = SHOWN.matcher(line);
            if (shown.matches()) {
                String quoted = shown.group(1).replace("\"", "'");
                body.append("due(\"").append(quoted).append("\", ").append(shown.group(1)).append(", ")
                    .append(shown.group(3)).append(");\n");
            } else {
                if (line.startsWith("x.")) fault("README.md has no answer behind " + line);
                body.append(line).append('\n');
            }
        }
        run(body.append("}\n}\n").toString());
    }

    private static void run(String source) throws Exception {
        JavaCompiler compiler = ToolProvider.getSystemJavaCompiler();
        Path room = Files.createTempDirectory("readme");
        try {
            Path file = Files.writeString(room.resolve("ReadmeExample.java"), source);
            String path = System.getProperty("java.class.path");
            if (compiler.run(null, null, null, "-cp", path, "-d", room.toString(), file.toString()) != 0) {
                fault("README.md's example does not compile");
                return;
            }
            try (URLClassLoader loader = new URLClassLoader(new URL[] {room.toUri().toURL()})) {
                Class<?> made = loader.loadClass("ReadmeExample");
                made.getMethod("run").invoke(null);
                wrong += made.getField("wrong").getInt(null);
            }
        } finally {
            try (Stream<Path> files = Files.walk(room)) {
                for (Path file : files.sorted(Comparator.reverseOrder()).toList()) Files.delete(file);
            }
        }
    }
}

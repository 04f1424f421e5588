import java.io.File;
import java.lang.reflect.Method;
import java.net.URL;
import java.net.URLClassLoader;
import java.nio.file.Files;
import java.nio.file.Path;
import java.util.ArrayList;
import java.util.LinkedHashSet;
import java.util.List;
import java.util.Set;
import java.util.TreeSet;
import java.util.regex.Matcher;
import java.util.regex.Pattern;
import java.util.stream.Stream;
import javax.tools.ToolProvider;

/** What README.md says holds as written: its examples are compiled and run, its commands run, its table compared. */
public final class ReadmeTest {
    private static final Path README = Path.of("README.md");
    private static final Path DOCUMENT = Path.of("../shared/DOC.md");
    private static final Pattern ANSWERED = Pattern.compile("^(\\s*)(routes\\.\\w+\\(.*\\));\\s*// (-?\\d+)(:.*)?$");
    private static final Pattern ROW = Pattern.compile("(?m)^\\| `(\\w+)\\(([^)]*)\\)` \\|[^|]+\\|([^|]*)\\|$");
    private static int checks = 0;
    private static int wrong = 0;

    private static void check(String what, boolean holds) {
        checks++;
        if (!holds) {
            wrong++;
            System.out.println("README.md: " + what);
        }
    }

    /** Called by the examples, once they are compiled. */
    public static void due(String call, int got, int want) {
        check(call + " answered " + got + ", it says " + want, got == want);
    }

    private static List<String> blocks(String page, String kind) {
        List<String> found = new ArrayList<>();
        Matcher m = Pattern.compile("(?s)```" + kind + "\n(.*?)```").matcher(page);
        while (m.find()) {
            found.add(m.group(1));
        }
        return found;
    }

    /** The block, with a check in the place of each call that tells its answer behind it. */
    private static String withChecks(String block) {
        StringBuilder code = new StringBuilder();
        for (String line : block.split("\n")) {
            Matcher m = ANSWERED.matcher(line);
            if (m.matches()) {
                code.append("ReadmeTest.due(\"").append(m.group(2).replace("\"", "\\\"")).append("\", ").append(m.group(2))
                    .append(", ").append(m.group(3)).append(");\n");
            } else {
                check("no answer stands behind " + line, !line.contains("//"));
                code.append(line).append('\n');
            }
        }
        return code.toString();
    }

    private static void examples(String page, Path place) throws Exception {
        StringBuilder source = new StringBuilder("public final class Examples {\n");
        List<String> blocks = blocks(page, "java");
        for (int k = 0; k < blocks.size(); k++) {
            source.append("public static void run").append(k).append("() {\n").append(withChecks(blocks.get(k)))
                .append("}\n");
        }
        Path file = place.resolve("Examples.java");
        Files.writeString(file, source.append("}\n"));
        int code = ToolProvider.getSystemJavaCompiler().run(null, null, null, "-cp", System.getProperty("java.class.path"),
            "-d", place.toString(), file.toString());
        check("the examples compile", code == 0);
        if (code == 0) {
            try (URLClassLoader loader = new URLClassLoader(new URL[] {place.toUri().toURL()})) {
                for (int k = 0; k < blocks.size(); k++) {
                    int ahead = checks;
                    Method run = loader.loadClass("Examples").getMethod("run" + k);
                    run.invoke(null);
                    check("example " + k + " tells no answer", checks > ahead);
                }
            }
        }
        check("it has examples", blocks.size() >= 3);
    }

    /** .ci/run is what runs this test, so it is not run again; what else is a command is run, but into another place. */
    private static void commands(String page, Path place) throws Exception {
        boolean tellsAll = false;
        for (String block : blocks(page, "sh")) {
            if (block.trim().equals(".ci/run")) {
                tellsAll = true;
                check(".ci/run can be run", Files.isExecutable(Path.of(".ci/run")));
            } else {
                Process p = new ProcessBuilder("sh", "-e", "-c", block.replace("build/", place + File.separator))
                    .redirectErrorStream(true).start();
                String said = new String(p.getInputStream().readAllBytes());
                int code = p.waitFor();
                check("ends with " + code + ": " + block + said, code == 0);
            }
        }
        check("it tells how to run all tests", tellsAll);
    }

    private static Set<String> refusals(String words) {
        Set<String> found = new LinkedHashSet<>();
        Matcher m = Pattern.compile("\\b(BAD|NOT|FULL|NONE|NULL|CAST|INDEX|SIZE)\\b").matcher(words);
        while (m.find()) {
            found.add(m.group());
        }
        return found;
    }

    private static String promise(String document, String call) {
        Matcher m = Pattern.compile("(?s)## Promise \\d+: " + call + "\n\n`[^`]*`:(.*?)\n(## |$)").matcher(document);
        return m.find() ? m.group(1) : "";
    }

    /** BAD goes first wherever it stands; the others keep the document's order. */
    private static void refusalsAreDue(String call, String document, String told) {
        List<String> want = new ArrayList<>(refusals(promise(document, call)));
        if (want.remove("BAD")) {
            want.add(0, "BAD");
        }
        check(call + " is refused by " + want + ", it says " + told.trim(), told.trim().equals(String.join(", ", want)));
    }

    private static void table(String page) throws Exception {
        if (!Files.exists(DOCUMENT)) {
            System.out.println("the document is not at hand: the calls are not compared");
            return;
        }
        String document = Files.readString(DOCUMENT);
        List<String> want = new ArrayList<>();
        Matcher face = Pattern.compile("public int (\\w+)\\(([^)]*)\\);").matcher(document);
        while (face.find()) {
            want.add(face.group(1) + "(" + face.group(2).replaceAll("\\b(int|long) ", "") + ")");
        }
        List<String> told = new ArrayList<>();
        Matcher rows = ROW.matcher(page);
        while (rows.find()) {
            told.add(rows.group(1) + "(" + rows.group(2) + ")");
            refusalsAreDue(rows.group(1), document, rows.group(3));
        }
        check("the calls are " + want + ", it says " + told, told.equals(want));
    }

    private static void names(String page) throws Exception {
        Set<String> told = new TreeSet<>();
        Matcher quoted = Pattern.compile("`([^`\n]+)`").matcher(page.replaceAll("(?s)```.*?```", ""));
        while (quoted.find()) {
            String name = quoted.group(1);
            if (name.matches("\\w+Test")) {
                told.add(name);
            } else if (name.contains("/") && !name.startsWith("../shared")) {
                check("there is no " + name, Files.exists(Path.of(name)));
            }
        }
        Set<String> there = new TreeSet<>();
        try (Stream<Path> files = Files.list(Path.of("src/test/java"))) {
            files.forEach(f -> there.add(f.getFileName().toString().replace(".java", "")));
        }
        check("the tests are " + there + ", it says " + told, told.equals(there));
    }

    private static void remove(Path place) throws Exception {
        File[] inside = place.toFile().listFiles();
        for (File f : inside == null ? new File[0] : inside) {
            remove(f.toPath());
        }
        Files.delete(place);
    }

    public static void main(String[] args) throws Exception {
        String page = Files.readString(README);
        Path place = Files.createTempDirectory("readme");
        try {
            examples(page, place);
            commands(page, place);
            table(page);
            names(page);
        } finally {
            remove(place);
        }
        System.out.println(checks + " checks of README.md, " + wrong + " do not hold");
        if (wrong != 0) {
            System.exit(1);
        }
    }
}

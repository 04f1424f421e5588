import java.io.PrintWriter;
import java.io.StringWriter;
import java.lang.management.ManagementFactory;
import java.lang.reflect.Constructor;
import java.lang.reflect.Field;
import java.lang.reflect.Method;
import java.lang.reflect.Modifier;
import java.nio.file.Files;
import java.nio.file.Path;
import java.util.ArrayList;
import java.util.Arrays;
import java.util.List;
import java.util.Map;
import java.util.Optional;
import java.util.Set;
import java.util.TreeMap;
import java.util.TreeSet;
import java.util.regex.Matcher;
import java.util.regex.Pattern;
import java.util.spi.ToolProvider;

/**
 * The face of the class, rules of LANGUAGE.md that can be seen in its text or in the compiled class, and the room that a
 * run of calls takes.
 */
public final class RulesTest {
    private static final Path SOURCE = Path.of("src/main/java/LeastRoutes.java");
    private static final int DEEPEST = 8;
    private static final String ALLOWED = "java/lang/Object\\.\"<init>\"|java/lang/System\\.arraycopy"
        + "|java/util/Arrays\\.(fill|copyOf|copyOfRange)|java/lang/(Integer|Long|Math)\\.(?!\\w*Exact)\\w+";
    private static int wrong = 0;

    private static void check(String rule, boolean kept) {
        if (!kept) {
            wrong++;
            System.out.println("not kept: " + rule);
        }
    }

    private static void face() {
        Set<String> due = new TreeSet<>(Arrays.asList(
            "look(int,int)", "prefix(int,int)", "cost(int,int)", "least(int,int)", "count(int)", "change(int,int)",
            "proof(int,int)", "lost(int,int,int)", "tell(int,int)", "out(int)", "rename(int,int)", "install()",
            "type(int)", "read()", "drift(int)", "undo()", "seed(int)", "image()", "restore()",
            "lengths(int,int,int,int)", "film(int,int,int,int,int)", "sheet(int,int,int)", "drop(int)",
            "item(int,int,int,long)", "copy(int,int,int,int,int)"));
        Set<String> found = new TreeSet<>();
        Set<String> names = new TreeSet<>();
        for (Method m : LeastRoutes.class.getDeclaredMethods()) {
            if (Modifier.isPublic(m.getModifiers())) {
                String all = m.toString();
                found.add(m.getName() + all.substring(all.indexOf('(')));
                names.add(m.getName());
                check(m.getName() + " answers an int", m.getReturnType() == int.class);
                check(m.getName() + " is of an object", !Modifier.isStatic(m.getModifiers()));
            }
        }
        check("the public methods are those of the document: " + found, found.equals(due));
        check("the class is public and final", Modifier.isPublic(LeastRoutes.class.getModifiers())
            && Modifier.isFinal(LeastRoutes.class.getModifiers()));
        Constructor<?>[] makers = LeastRoutes.class.getDeclaredConstructors();
        check("one public constructor without parameters", makers.length == 1
            && Modifier.isPublic(makers[0].getModifiers()) && makers[0].getParameterCount() == 0);
        privateMembers(LeastRoutes.class, names);
        for (Class<?> inside : LeastRoutes.class.getDeclaredClasses()) {
            check(inside.getName() + " is static", Modifier.isStatic(inside.getModifiers()));
            privateMembers(inside, names);
        }
        check("at most twelve classes", LeastRoutes.class.getDeclaredClasses().length < 12);
        constants();
    }

    private static void privateMembers(Class<?> one, Set<String> publicNames) {
        for (Method m : one.getDeclaredMethods()) {
            boolean isPublic = Modifier.isPublic(m.getModifiers());
            check(m + " has a name of its own", isPublic || !publicNames.contains(m.getName()));
            check(m + " is private", one != LeastRoutes.class || isPublic || Modifier.isPrivate(m.getModifiers()));
            check(m + " has seven parameters at most", m.getParameterCount() <= 7);
        }
        int fields = 0;
        for (Field f : one.getDeclaredFields()) {
            boolean isStatic = Modifier.isStatic(f.getModifiers());
            fields += isStatic ? 0 : 1;
            check(f + " is final", !isStatic || Modifier.isFinal(f.getModifiers()));
            check(f + " is private", Modifier.isPrivate(f.getModifiers())
                || isStatic && Modifier.isPublic(f.getModifiers()) && one == LeastRoutes.class);
        }
        check(one + " has twenty fields at most", fields <= 20);
    }

    private static void constants() {
        int[] due = {-1, -2, -3, -4, -11, -12, -13, -14};
        int[] found = {LeastRoutes.BAD, LeastRoutes.NOT, LeastRoutes.FULL, LeastRoutes.NONE, LeastRoutes.NULL,
            LeastRoutes.CAST, LeastRoutes.INDEX, LeastRoutes.SIZE};
        check("the constants are those of the document", Arrays.equals(due, found));
        long open = Arrays.stream(LeastRoutes.class.getDeclaredFields())
            .filter(f -> Modifier.isPublic(f.getModifiers())).count();
        check("no other field is public", open == due.length);
    }

    private static String withoutComments(String text) {
        return text.replaceAll("(?s)/\\*.*?\\*/", " ").replaceAll("//[^\n]*", " ");
    }

    private static void text() throws Exception {
        String whole = Files.readString(SOURCE);
        check("signs 1 to 127 alone", whole.chars().allMatch(c -> c >= 1 && c <= 127));
        String code = withoutComments(whole);
        for (String word : new String[] {"throw", "throws", "try", "catch", "finally", "synchronized", "assert",
            "package", "volatile", "native", "protected", "transient", "Thread", "Random", 
            "hashCode", "toString", "Object", "double", "float", "\\w+Exact"}) {
            check("without " + word, !Pattern.compile("\\b" + word + "\\b").matcher(code).find());
        }
        check("without System but arraycopy", !Pattern.compile("System\\.(?!arraycopy)").matcher(code).find());
        check("no lambda, no method reference", !code.contains("->") && !code.contains("::"));
        Matcher imports = Pattern.compile("import ([^;]+);").matcher(code);
        while (imports.find()) {
            check("import of " + imports.group(1), imports.group(1).matches("java\\.util\\.(Arrays|ArrayList|List)"));
        }
        methodsAreShort(code);
    }

    private static void methodsAreShort(String code) {
        String[] lines = code.split("\n");
        int start = -1;
        String end = "";
        for (int k = 0; k < lines.length; k++) {
            Matcher head = Pattern.compile("^( {4}| {8})(?! )[\\w\\[\\]<> ]+\\([^;]*\\) \\{$").matcher(lines[k]);
            if (start < 0 && head.find() && !lines[k].matches("^ {8}(if|for|while|switch|do)\\b.*")) {
                start = k;
                end = head.group(1) + "}";
            } else if (start >= 0 && lines[k].equals(end)) {
                check("at most sixty lines: " + lines[start].trim(), k - start < 60);
                start = -1;
            }
        }
    }

    /** What the compiled class does, as the Java kit's own reader of classes tells it; empty: there is no such reader. */
    private static String compiledCode() {
        Optional<ToolProvider> reader = ToolProvider.findFirst("javap");
        if (reader.isEmpty()) {
            System.out.println("the reader of classes is not at hand: the compiled class is not looked at");
            return "";
        }
        List<String> wanted = new ArrayList<>(Arrays.asList("-c", "-p", "-cp", System.getProperty("java.class.path")));
        wanted.add(LeastRoutes.class.getName());
        for (Class<?> inside : LeastRoutes.class.getDeclaredClasses()) {
            wanted.add(inside.getName());
        }
        StringWriter said = new StringWriter();
        int code = reader.get().run(new PrintWriter(said), new PrintWriter(said), wanted.toArray(new String[0]));
        check("the compiled class can be read", code == 0);
        return said.toString();
    }

    /** Of each method ("LeastRoutes$Table.hopAt") the methods that it calls. */
    private static Map<String, Set<String>> callsOf(String code) {
        Map<String, Set<String>> calls = new TreeMap<>();
        String owner = "";
        String method = "";
        Pattern head = Pattern.compile("^  (?! )[^(]*?([\\w$]+)\\(.*\\);$");
        for (String line : code.split("\n")) {
            Matcher type = Pattern.compile("\\bclass ([\\w$]+) .*\\{$").matcher(line);
            Matcher begin = head.matcher(line);
            Matcher call = Pattern.compile("// (?:Interface)?Method (\\S+):\\(").matcher(line);
            if (!line.startsWith(" ") && type.find()) {
                owner = type.group(1);
            } else if (begin.find()) {
                method = owner + "." + (begin.group(1).equals(owner) ? "\"<init>\"" : begin.group(1));
                calls.put(method, new TreeSet<>());
            } else if (call.find()) {
                calls.get(method).add(call.group(1).matches(".*[./].*") ? call.group(1) : owner + "." + call.group(1));
            }
            check("no object is made but in constructors: " + method + line,
                !line.matches(".*: (new|a?newarray|multianewarray) .*") || method.endsWith("<init>\""));
            check("nothing of the machine that is ruled out: " + method + line,
                !line.matches(".*: (athrow|invokedynamic|checkcast|monitorenter|[fd]add|[fd]div)\\b.*"));
            check("no static initialiser: " + owner, !line.startsWith("  static {}"));
        }
        return calls;
    }

    /** How many calls stand open at once, beginning with this one; the library's own count as one. */
    private static int depth(Map<String, Set<String>> calls, String method, List<String> open) {
        check("no recursion: " + open + " " + method, !open.contains(method));
        if (open.contains(method) || !calls.containsKey(method)) {
            return 1;
        }
        open.add(method);
        int below = 0;
        for (String next : calls.get(method)) {
            below = Math.max(below, depth(calls, next, open));
        }
        open.remove(method);
        return below + 1;
    }

    private static void compiled() {
        String code = compiledCode();
        Map<String, Set<String>> calls = callsOf(code);
        check("all calls of the face are found", code.isEmpty() || calls.size() > 25);
        for (Map.Entry<String, Set<String>> one : calls.entrySet()) {
            for (String called : one.getValue()) {
                check(one.getKey() + " calls " + called, calls.containsKey(called) || called.matches(ALLOWED));
            }
            int deep = depth(calls, one.getKey(), new ArrayList<>());
            check("at most eight deep: " + one.getKey() + " goes " + deep, deep <= DEEPEST);
        }
    }

    private static long allocated() {
        com.sun.management.ThreadMXBean threads = (com.sun.management.ThreadMXBean) ManagementFactory.getThreadMXBean();
        return threads.getCurrentThreadAllocatedBytes();
    }

    /** One round over all calls, the dearest arguments. */
    private static int allCalls(LeastRoutes x) {
        int sum = 0;
        sum += x.drift(40) + x.install() + x.drift(40) + x.rename(1, 2) + x.tell(300, 3) + x.out(300);
        for (int what = 0; what < 8; what++) {
            sum += x.look(255, what) + x.prefix(1, what) + x.least(39, what) + x.count(what) + x.change(79, what)
                + x.proof(255, what) + x.lost(255, 9, what) + x.cost(1, what);
        }
        sum += x.image() + x.restore() + x.undo() + x.seed(9);
        for (int s = 0; s < 4; s++) {
            sum += x.sheet(s, s, 30) + x.film(0, 12, s, s, 0) + x.item(s, s, 0, 9) + x.lengths(s, s, 6, 12)
                + x.copy(s, 0, s, 1, 29) + x.drop(s);
        }
        for (int k = 0; k < 101; k++) {
            sum += x.type("*:1;0*:2;1*:3;00*:4".charAt(k % 19));
        }
        return sum + x.read();
    }

    private static void room() {
        allCalls(new LeastRoutes());
        long ahead = allocated();
        LeastRoutes x = new LeastRoutes();
        long made = allocated() - ahead;
        ahead = allocated();
        allCalls(x);
        allCalls(x);
        long called = allocated() - ahead;
        // All of a run is to be under 7.3 million fields and elements, even if each of 512 calls made an object.
        check("a new object is small: " + made + " bytes", made < 40_000);
        check("no call makes an object: " + called + " bytes", called < 2_000);
    }

    public static void main(String[] args) throws Exception {
        face();
        text();
        compiled();
        room();
        System.out.println(wrong == 0 ? "all rules that can be seen are kept" : wrong + " rules are not kept");
        if (wrong != 0) {
            System.exit(1);
        }
    }
}

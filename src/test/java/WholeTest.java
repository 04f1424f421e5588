import java.lang.reflect.Constructor;
import java.lang.reflect.Field;
import java.lang.reflect.Method;
import java.lang.reflect.Modifier;
import java.nio.file.Files;
import java.nio.file.Path;
import java.util.ArrayList;
import java.util.Arrays;
import java.util.List;
import java.util.Random;
import java.util.Set;
import java.util.TreeSet;
import java.util.regex.Matcher;
import java.util.regex.Pattern;

/** The document's first lines, word by word in one story; its face; how long an object is used. */
public final class WholeTest {
    private static final int NONE = Sentences.NONE, NULL = Sentences.NULL;
    private static final Path DOCUMENT = Path.of("../shared/DOC.md");
    private static final int[] EDGES = {Integer.MIN_VALUE, -1, 0, 1, 2, 3, 4, 5, 6, 7, 8, 9, 10, 11, 12, 13, 29, 30, 31, 39,
        40, 41, 48, 49, 58, 59, 99, 100, 127, 128, 255, 256, 257, 295, 511, 512, Integer.MAX_VALUE};

    private static void the(String words) {
        Sentences.the("What it is", words);
    }

    private static void due(String call, int got, int want) {
        Sentences.due(call, got, want);
    }

    /** 0.. goes by 1, but 0000.. by 4; 10.. by 1; 11.. by 2. */
    private static LeastRoutes story() {
        the("A route table made least:");
        LeastRoutes x = new LeastRoutes();
        int[][] told = {{2, 1}, {4, 1}, {16, 4}, {6, 1}, {7, 2}};
        for (int[] one : told) {
            due("tell(" + one[0] + ", " + one[1] + ")", x.tell(one[0], one[1]), 8);
        }
        due("five prefixes", x.count(0), 5);
        due("made three", x.count(1), 3);
        the("prefixes of addresses, each with the hop by which what goes there is sent on;");
        for (int[] one : told) {
            due("prefix(" + one[0] + ", 0)", x.prefix(one[0], 0), one[1]);
        }
        the("the longest prefix that an address has decides;");
        int[][] decided = {{0, 16}, {15, 16}, {16, 4}, {63, 4}, {64, 2}, {127, 2}, {128, 6}, {192, 7}, {255, 7}};
        for (int[] one : decided) {
            due("look(" + one[0] + ", 1)", x.look(one[0], 1), one[1]);
            due("look(" + one[0] + ", 0)", x.look(one[0], 0), x.prefix(one[1], 0));
            due("by the least table, too", x.look(one[0], 3), x.prefix(one[1], 0));
        }
        return x;
    }

    private static void best(LeastRoutes x) {
        the("by how few prefixes all addresses beneath one could be sent just so, whatever comes from above,");
        int[] numbers = {1, 2, 3, 16, 7};
        int[][] costs = {{3, 2, 3, 3, 3, 3, 3, 3}, {2, 1, 2, 2, 2, 2, 2, 2}, {2, 1, 1, 2, 2, 2, 2, 2},
            {1, 1, 1, 1, 0, 1, 1, 1}, {1, 1, 0, 1, 1, 1, 1, 1}};
        int[] sets = {2, 2, 6, 16, 4};
        for (int k = 0; k < numbers.length; k++) {
            for (int hop = 0; hop < 8; hop++) {
                due("cost(" + numbers[k] + ", " + hop + ")", x.cost(numbers[k], hop), costs[k][hop]);
            }
        }
        the("and which hops from above are the best ones for that;");
        for (int k = 0; k < numbers.length; k++) {
            due("prefix(" + numbers[k] + ", 3)", x.prefix(numbers[k], 3), sets[k]);
        }
        the("the least table of all, prefix by prefix;");
        int[][] least = {{1, 1}, {7, 2}, {16, 4}, {NONE, NONE}};
        for (int k = 0; k < least.length; k++) {
            due("least(" + k + ", 0)", x.least(k, 0), least[k][0]);
            due("least(" + k + ", 1)", x.least(k, 1), least[k][1]);
        }
    }

    private static void installed(LeastRoutes x) {
        the("a table that was installed, what must be changed in it,");
        due("install()", x.install(), 3);
        due("nothing is to be changed", x.count(3), 0);
        due("0000.. goes by 5 now", x.tell(16, 5), 4);
        due("11.. goes by none, so by 0", x.out(7), 2);
        int[][] changes = {{7, 2, 0, 2}, {16, 4, 5, 2}};
        due("two changes", x.count(3), 2);
        for (int k = 0; k < 2; k++) {
            for (int what = 0; what < 4; what++) {
                due("change(" + k + ", " + what + ")", x.change(k, what), changes[k][what]);
            }
        }
        the("the first address that it sends elsewhere,");
        due("0 goes by 5, by what is installed by 4", x.count(6), 0);
        due("0000.. as it was", x.tell(16, 4), 5);
        due("192 goes by 0, by what is installed by 2", x.count(6), 192);
        the("a proof prefix by prefix where both agree;");
        int[][] proof = {{16, 4, 4}, {17, 1, 1}, {9, 1, 1}, {5, 1, 1}, {6, 1, 1}, {7, 0, 2}};
        due("six of proof", x.count(4), proof.length);
        for (int k = 0; k < proof.length; k++) {
            for (int what = 0; what < 3; what++) {
                due("proof(" + k + ", " + what + ")", x.proof(k, what), proof[k][what]);
            }
        }
    }

    private static void odds(LeastRoutes x) {
        the("what is redundant;");
        due("00.. goes as 0.. goes", x.prefix(4, 6), 1);
        due("no other", x.count(5), 1);
        the("the odds that an address is still sent right if prefixes are lost;");
        int[][] odds = {{0, 9, 10}, {16, 99, 100}, {64, 9, 10}, {255, 1, 1}};
        for (int[] one : odds) {
            due("lost(" + one[0] + ", 1, 0)", x.lost(one[0], 1, 0), one[1]);
            due("lost(" + one[0] + ", 1, 1)", x.lost(one[0], 1, 1), one[2]);
        }
        the("by which lengths alone rows of addresses could be told;");
        Sentences.row(x, 0, 2, 0b00010000, 1, 0b00100000, 1, 0b00110000, 4, 0b11000000, 2);
        due("one, two bits and three are too few", x.lengths(0, 2, 0, 4), 0b111110000);
        due("the first two go by one hop", x.lengths(0, 2, 0, 2), 511);
    }

    private static void steps() {
        the("prefixes told, out, hops renamed, tables by texts, by draws, installed, undone;");
        LeastRoutes x = new LeastRoutes();
        due("told", x.tell(3, 1), 8);
        due("a hop renamed", x.rename(1, 6), 1);
        due("out", x.out(3), 6);
        due("by a text", Sentences.typeAndRead(x, "*:1; 10*:2"), 2);
        due("installed", x.install(), 2);
        due("by a draw: prefix 284 with hop 4", x.drift(1), 3);
        due("its hop", x.prefix(284, 0), 4);
        int[][] ahead = {{2, 2}, {2, 0}, {0, 0}, {1, 0}, {1, 0}, {0, 0}};
        for (int k = 0; k < 6; k++) {
            due("undone", x.undo(), 5 - k);
            due("the table then", x.count(0), ahead[k][0]);
            due("what is installed then", x.count(2), ahead[k][1]);
        }
        the("images;");
        due("restore() without one", x.restore(), NONE);
        due("image()", x.image(), 1);
        due("tell(1, 1)", x.tell(1, 1), 8);
        due("restore()", x.restore(), 1);
        due("as it was", x.count(0), 0);
        the("sheets that may be missing.");
        due("missing", x.drop(2), NULL);
        due("a row", x.sheet(2, 3, 5), 5);
        due("there", x.drop(2), 5);
        due("missing again", x.item(2, 3, 0, 1), NULL);
    }

    /** One call by arguments from the edges and between. */
    private static int anyCall(LeastRoutes x, Method call, Random random) throws Exception {
        Object[] given = new Object[call.getParameterCount()];
        for (int k = 0; k < given.length; k++) {
            int v = random.nextInt(4) == 0 ? EDGES[random.nextInt(EDGES.length)] : random.nextInt(12);
            given[k] = call.getParameterTypes()[k] == long.class ? (Object) Long.valueOf(v) : (Object) Integer.valueOf(v);
        }
        return (Integer) call.invoke(x, given);
    }

    /** The first 512 calls answer as told (ModelTest has runs so long); those behind them still throw nothing. */
    private static void howLong() throws Exception {
        the("An object is used for at most 512 calls after it has been made; what later calls answer is free.");
        LeastRoutes x = new LeastRoutes();
        for (int k = 0; k < 255; k++) {
            due("tell", x.tell(1 + k % 40, 1 + k / 40), k < 40 ? 8 : k / 40);
            due("known", x.count(7), Math.min(k + 1, 6));
        }
        due("the 511th call", x.prefix(1, 0), 7);
        due("the 512th call", x.undo(), 5);
        for (int run = 0; run < 40; run++) {
            Random random = new Random(run);
            LeastRoutes any = new LeastRoutes();
            List<Method> calls = calls();
            for (int k = 0; k < 4000; k++) {
                Method call = calls.get(random.nextInt(calls.size()));
                int answer = anyCall(any, call, random);
                due(call.getName() + " answers none but told numbers", isTold(call.getName(), answer) ? 1 : 0, 1);
            }
        }
    }

    private static boolean isTold(String call, int answer) {
        if (answer >= 0) {
            return true;
        }
        return call.equals("read") ? answer <= -20 && answer >= -120
            : answer >= -4 || answer <= -11 && answer >= -14;
    }

    private static List<Method> calls() {
        List<Method> found = new ArrayList<>();
        for (Method m : LeastRoutes.class.getDeclaredMethods()) {
            if (Modifier.isPublic(m.getModifiers())) {
                found.add(m);
            }
        }
        // Reflection tells them in no order that is promised, and the runs are to be the same each time.
        found.sort((a, b) -> a.getName().compareTo(b.getName()));
        return found;
    }

    private static String formOf(Class<?>[] types) {
        return Arrays.toString(types).replaceAll("[\\[\\]]", "");
    }

    /** The face, read from the document's own lines. */
    private static void face() throws Exception {
        if (!Files.exists(DOCUMENT)) {
            System.out.println("the document is not at hand: the face is not compared");
            return;
        }
        String document = Files.readString(DOCUMENT);
        String block = document.substring(document.indexOf("public final class LeastRoutes {"));
        Set<String> want = new TreeSet<>();
        Matcher m = Pattern.compile("public (int )?(\\w+)\\(([^)]*)\\);").matcher(block);
        while (m.find()) {
            want.add(m.group(2) + "(" + m.group(3).replaceAll("\\b(int|long) \\w+", "$1") + ")");
        }
        Set<String> found = new TreeSet<>();
        for (Method call : calls()) {
            found.add(call.getName() + "(" + formOf(call.getParameterTypes()) + ")");
        }
        for (Constructor<?> maker : LeastRoutes.class.getConstructors()) {
            found.add(maker.getName() + "(" + formOf(maker.getParameterTypes()) + ")");
        }
        due("the face is " + want + ", found " + found, found.equals(want) ? 1 : 0, 1);
        constants(block);
    }

    private static void constants(String block) throws Exception {
        String line = block.substring(block.indexOf("public static final int "), block.indexOf(";"));
        int told = 0;
        Matcher m = Pattern.compile("(\\w+) = (-?\\d+)").matcher(line);
        while (m.find()) {
            Field f = LeastRoutes.class.getField(m.group(1));
            due(m.group(1), f.getInt(null), Integer.parseInt(m.group(2)));
            told++;
        }
        due("so many constants", LeastRoutes.class.getFields().length, told);
    }

    public static void main(String[] args) throws Exception {
        LeastRoutes x = story();
        best(x);
        installed(x);
        odds(x);
        steps();
        howLong();
        face();
        Sentences.end("What it is");
    }
}

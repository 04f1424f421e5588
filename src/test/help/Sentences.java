import java.nio.file.Files;
import java.nio.file.Path;
import java.util.ArrayList;
import java.util.List;

/**
 * What the tests by sentences share. A test names a sentence of the document by its words, then makes calls, each with
 * the answer that is due; at its end it is told which words of the document no test has named.
 */
final class Sentences {
    static final int BAD = -1, NOT = -2, FULL = -3, NONE = -4, NULL = -11, CAST = -12, INDEX = -13, SIZE = -14;

    private static final Path DOCUMENT = Path.of("../shared/DOC.md");
    private static final List<String[]> named = new ArrayList<>();
    private static int checks = 0;
    private static int checksAhead = 0;
    private static int wrong = 0;

    private Sentences() {
    }

    /** The checks that follow are of these words of a section ("Terms", "Promise 2: look"). */
    static void the(String section, String words) {
        endSentence();
        named.add(new String[] {section, words});
    }

    static void due(String call, int got, int want) {
        checks++;
        if (got != want) {
            fail(call + " answered " + got + ", due is " + want);
        }
    }

    /** All calls of a row of numbers outside of low .. high are to be refused as BAD. */
    static int[] outside(int low, int high) {
        return new int[] {Integer.MIN_VALUE, low - 1, high + 1, Integer.MAX_VALUE};
    }

    static int[] below(int low) {
        return new int[] {Integer.MIN_VALUE, low - 1};
    }

    static int typeAndRead(LeastRoutes x, String text) {
        for (int k = 0; k < text.length(); k++) {
            due("type as a text is typed", x.type(text.charAt(k)), k + 1);
        }
        return x.read();
    }

    static LeastRoutes withText(String text) {
        LeastRoutes x = new LeastRoutes();
        int prefixes = text.split(";").length;
        due("read of " + text, typeAndRead(x, text), prefixes);
        return x;
    }

    /** 40 prefixes of eight bits, 256 .. 295, with hops 1 .. 7 in turn. */
    static LeastRoutes fullTable() {
        LeastRoutes x = new LeastRoutes();
        for (int k = 0; k < 40; k++) {
            due("tell as the table fills", x.tell(256 + k, 1 + k % 7), 8);
        }
        return x;
    }

    /** A sheet gets a row of these items. */
    static void row(LeastRoutes x, int sheet, int lane, long... items) {
        due("sheet", x.sheet(sheet, lane, items.length), items.length);
        for (int i = 0; i < items.length; i++) {
            due("item " + i, x.item(sheet, lane, i, items[i]), 1);
        }
    }

    /**
     * No call tells an item, but lengths tells whether an address with hop 0 beside one with hop 1 is the same: the
     * items are copied to sheet 3 for that, one by one.
     */
    static void rowIsDue(LeastRoutes x, int sheet, int lane, int... addresses) {
        for (int i = 0; i < addresses.length; i++) {
            row(x, 3, lane, 0, 0, addresses[i], 1);
            due("copy of item " + i, x.copy(sheet, i, 3, 0, 1), 1);
            due("item " + i + " is " + addresses[i], x.lengths(3, lane, 0, 2) & 256, 0);
            due("item " + i + " is an address", Math.min(x.lengths(3, lane, 0, 2), 0), 0);
        }
        due("so many items and no more", x.item(sheet, lane, addresses.length, 0), INDEX);
    }

    private static void fail(String what) {
        wrong++;
        String[] at = named.isEmpty() ? new String[] {"", ""} : named.get(named.size() - 1);
        System.out.println(at[0] + " '" + at[1] + "': " + what);
    }

    private static void endSentence() {
        if (!named.isEmpty() && checks == checksAhead) {
            fail("nothing is checked");
        }
        checksAhead = checks;
    }

    /** The text of a section, blanks made one, without the signs of its form; null: there is none. */
    private static String textOf(String document, String section) {
        int from = document.indexOf("## " + section + "\n");
        if (from < 0) {
            return null;
        }
        int start = from + 3 + section.length();
        int end = document.indexOf("\n## ", start);
        return plain(document.substring(start, end < 0 ? document.length() : end).replaceFirst("^\\s*`[^`]*`:", ""));
    }

    /** Headings and fences promise nothing. */
    private static String plain(String words) {
        return words.replaceAll("```(text)?", " ").replaceAll("==== \\d", " ")
            .replaceAll("Ahead of the calls [^:]*the interface says: ---- (\\d [a-z ]+\\.)?", " ").replaceAll("\\s+", " ");
    }

    private static void compareWithDocument(String document, String section) {
        String text = textOf(document, section);
        if (text == null) {
            fail("the document has no section " + section);
            return;
        }
        StringBuilder left = new StringBuilder(text);
        for (String[] one : named) {
            if (one[0].equals(section)) {
                int at = text.indexOf(plain(one[1]));
                if (at < 0) {
                    fail("the document does not say in " + section + ": " + one[1]);
                }
                for (int k = at; at >= 0 && k < at + plain(one[1]).length(); k++) {
                    left.setCharAt(k, '|');
                }
            }
        }
        for (String rest : left.toString().split("\\|+")) {
            if (rest.matches(".*\\w.*")) {
                fail("no test names in " + section + ": " + rest.trim());
            }
        }
    }

    /** Ends the test: the sections given are to be named word by word, where the document is at hand. */
    static void end(String... sections) {
        endSentence();
        try {
            if (Files.exists(DOCUMENT)) {
                String document = Files.readString(DOCUMENT);
                for (String section : sections) {
                    compareWithDocument(document, section);
                }
            } else {
                System.out.println("the document is not at hand: words are not compared");
            }
        } catch (java.io.IOException e) {
            fail("the document can't be read");
        }
        System.out.println(named.size() + " sentences, " + checks + " calls, " + wrong + " not as due");
        if (wrong != 0) {
            System.exit(1);
        }
    }
}

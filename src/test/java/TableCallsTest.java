/** Promises 1 to 9, sentence by sentence: what is asked of the tables. */
public final class TableCallsTest {
    private static final int BAD = Sentences.BAD, NONE = Sentences.NONE, NULL = Sentences.NULL, NOT = Sentences.NOT;
    private static String section = "";

    private static void the(String words) {
        Sentences.the(section, words);
    }

    private static void due(String call, int got, int want) {
        Sentences.due(call, got, want);
    }

    private static void newObject() {
        section = "Promise 1: A new object";
        the("As told.");
        LeastRoutes x = new LeastRoutes();
        int[] counts = {0, 0, 0, 0, 1, 0, NONE, 0};
        for (int what = 0; what < 8; what++) {
            due("count(" + what + ")", x.count(what), counts[what]);
        }
        due("no image", x.restore(), NONE);
        due("nothing to undo", x.undo(), NONE);
        due("nothing to install", x.install(), NOT);
        due("the draw", x.seed(1), 1);
        due("the tape is empty", x.type('*'), 1);
        for (int s = 0; s < 4; s++) {
            due("a sheet holds nothing", x.drop(s), NULL);
        }
        for (int a = 0; a < 256; a++) {
            due("look(" + a + ", 0)", x.look(a, 0), 0);
        }
        x = new LeastRoutes();
        for (int p = 1; p < 512; p++) {
            due("prefix(" + p + ", 0)", x.prefix(p, 0), NONE);
        }
        objectsAreApart();
    }

    private static void objectsAreApart() {
        LeastRoutes x = Sentences.withText("*:3");
        x.install();
        x.image();
        x.seed(9);
        x.type('*');
        x.sheet(0, 0, 3);
        LeastRoutes y = new LeastRoutes();
        due("another object's table", y.count(0), 0);
        due("another object's installed", y.count(2), 0);
        due("another object's steps", y.count(7), 0);
        due("another object's draw", y.seed(1), 1);
        due("another object's image", y.restore(), NONE);
        due("another object's tape", y.type('*'), 1);
        due("another object's sheet", y.drop(0), NULL);
        due("its own table stays", x.count(0), 1);
    }

    private static void look() {
        section = "Promise 2: look";
        LeastRoutes x = Sentences.withText("1*:1;10*:2;10000000:3");
        the("Of an ADDRESS: 0 its HOP,");
        due("the least address", x.look(0, 0), 0);
        due("the last of the half without a prefix", x.look(127, 0), 0);
        due("of eight bits", x.look(128, 0), 3);
        due("of two bits", x.look(129, 0), 2);
        due("the last of two bits", x.look(191, 0), 2);
        due("of one bit", x.look(192, 0), 1);
        due("the greatest address", x.look(255, 0), 1);
        the("1 the PREFIX that decides it (NONE: it has none),");
        due("none", x.look(127, 1), NONE);
        due("of eight bits", x.look(128, 1), 256 + 128);
        due("of two bits", x.look(129, 1), 6);
        due("the last of two bits", x.look(191, 1), 6);
        due("of one bit", x.look(255, 1), 3);
        due("of no bit", Sentences.withText("*:0").look(255, 1), 1);
        lookAtInstalled(x);
        the("BAD.");
        for (int a : Sentences.outside(0, 255)) {
            due("look(" + a + ", 1)", x.look(a, 1), BAD);
        }
        for (int what : Sentences.outside(0, 3)) {
            due("look(0, " + what + ")", x.look(0, what), BAD);
        }
    }

    private static void lookAtInstalled(LeastRoutes x) {
        the("2 its HOP by INSTALLED,");
        due("none is installed", x.look(255, 2), 0);
        x.install();
        x.tell(3, 5);
        due("as it was installed", x.look(255, 2), 1);
        due("of eight bits", x.look(128, 2), 3);
        due("without a prefix", x.look(0, 2), 0);
        the("3 by THE LEAST table.");
        due("as the table is now", x.look(255, 3), 5);
        due("of eight bits", x.look(128, 3), 3);
        due("without a prefix", x.look(0, 3), 0);
    }

    private static void prefix() {
        section = "Promise 3: prefix";
        LeastRoutes x = Sentences.withText("0*:1;10*:2;11*:2;110*:4;111*:2");
        the("Of a PREFIX (1 .. 511):");
        for (int what = 0; what < 7; what++) {
            due("the least number", x.prefix(0, what), BAD);
            due("prefix 1 is one", x.prefix(1, what) == BAD ? 1 : 0, 0);
            due("prefix 511 is one", x.prefix(511, what) == BAD ? 1 : 0, 0);
            due("the greatest number", x.prefix(512, what), BAD);
        }
        the("0 its HOP in THE TABLE (NONE),");
        due("it is not there", x.prefix(3, 0), NONE);
        due("it is there", x.prefix(2, 0), 1);
        due("of three bits", x.prefix(14, 0), 4);
        due("hop 0 is there", Sentences.withText("*:0").prefix(1, 0), 0);
        prefixInLeast(x);
        prefixSets(x);
        prefixRedundant(x);
        prefixInstalled(x);
        the("BAD.");
        for (int p : Sentences.outside(1, 511)) {
            due("prefix(" + p + ", 3)", x.prefix(p, 3), BAD);
        }
        for (int what : Sentences.outside(0, 6)) {
            due("prefix(1, " + what + ")", x.prefix(1, what), BAD);
        }
    }

    private static void prefixInLeast(LeastRoutes x) {
        the("2 in THE LEAST table (NONE),");
        due("prefix(1, 2), the least hop of its set", x.prefix(1, 2), 1);
        due("prefix(2, 2)", x.prefix(2, 2), NONE);
        due("prefix(3, 2)", x.prefix(3, 2), 2);
        due("prefix(14, 2)", x.prefix(14, 2), 4);
        due("prefix(15, 2)", x.prefix(15, 2), NONE);
        due("prefix(511, 2)", x.prefix(511, 2), NONE);
    }

    private static void prefixSets(LeastRoutes x) {
        the("3 SET,");
        due("prefix(1, 3)", x.prefix(1, 3), 0b110);
        due("prefix(3, 3)", x.prefix(3, 3), 0b100);
        due("prefix(7, 3)", x.prefix(7, 3), 0b10100);
        due("prefix(511, 3)", x.prefix(511, 3), 0b100);
        the("4 EASE,");
        due("prefix(1, 4)", x.prefix(1, 4), 2);
        due("prefix(3, 4)", x.prefix(3, 4), 1);
        due("prefix(14, 4)", x.prefix(14, 4), 0);
        due("prefix(511, 4)", x.prefix(511, 4), 0);
        the("5 which HOPS ADDRESSES have that have it (bits),");
        due("prefix(1, 5)", x.prefix(1, 5), 0b10110);
        due("prefix(2, 5)", x.prefix(2, 5), 0b10);
        due("prefix(7, 5)", x.prefix(7, 5), 0b10100);
        due("prefix(511, 5)", x.prefix(511, 5), 0b100);
        due("hop 0 where none decides", new LeastRoutes().prefix(1, 5), 1);
        due("hop 0 beside hop 7", Sentences.withText("11111111:7").prefix(1, 5), 0b10000001);
    }

    private static void prefixRedundant(LeastRoutes x) {
        the("6 whether it's REDUNDANT (1, 0; NONE: it's not in THE TABLE).");
        due("longer ones decide all of it", x.prefix(7, 6), 1);
        due("its hop comes from above", x.prefix(15, 6), 1);
        due("it decides", x.prefix(14, 6), 0);
        due("it is not there", x.prefix(3, 6), NONE);
        LeastRoutes y = Sentences.withText("*:0;00000001:0;11111111:7");
        due("hop 0 for all, as if there were none", y.prefix(1, 6), 1);
        due("of eight bits, as from above", y.prefix(257, 6), 1);
        due("of eight bits, another one", y.prefix(511, 6), 0);
    }

    private static void prefixInstalled(LeastRoutes x) {
        the("1 in INSTALLED (NONE),");
        due("none is installed", x.prefix(1, 1), NONE);
        x.install();
        due("prefix(1, 1)", x.prefix(1, 1), 1);
        due("prefix(2, 1), in the table alone", x.prefix(2, 1), NONE);
        due("prefix(14, 1)", x.prefix(14, 1), 4);
        x.out(14);
        due("prefix(14, 1), not in the table any more", x.prefix(14, 1), 4);
    }

    private static void cost() {
        section = "Promise 4: cost";
        the("COST of a PREFIX by a HOP.");
        LeastRoutes x = Sentences.withText("0*:1;10*:2;110*:4;111*:2");
        int[][] costs = {{1, 0, 3}, {1, 1, 2}, {1, 2, 2}, {1, 4, 3}, {1, 7, 3}, {3, 2, 1}, {3, 4, 2}, {7, 4, 1}, {7, 0, 2},
            {511, 2, 0}, {511, 7, 1}, {256, 1, 0}, {256, 0, 1}};
        for (int[] c : costs) {
            due("cost(" + c[0] + ", " + c[1] + ")", x.cost(c[0], c[1]), c[2]);
        }
        the("BAD.");
        for (int p : Sentences.outside(1, 511)) {
            due("cost(" + p + ", 0)", x.cost(p, 0), BAD);
        }
        for (int hop : Sentences.outside(0, 7)) {
            due("cost(1, " + hop + ")", x.cost(1, hop), BAD);
        }
    }

    private static void least() {
        section = "Promise 5: least";
        LeastRoutes x = Sentences.withText("0*:1;10*:2;110*:4;111*:2");
        the("PREFIX k (0 on) of THE LEAST table by numbers:");
        int[][] rows = {{1, 1}, {3, 2}, {14, 4}};
        for (int k = 0; k < 3; k++) {
            due("least(" + k + ", 0)", x.least(k, 0), rows[k][0]);
        }
        LeastRoutes byNumbers = Sentences.withText("00000001:1;1111*:2;011*:3");
        due("fewer bits first", byNumbers.least(0, 0), 11);
        due("then the next", byNumbers.least(1, 0), 31);
        due("then eight bits", byNumbers.least(2, 0), 257);
        the("0 its number, 1 its HOP;");
        for (int k = 0; k < 3; k++) {
            due("least(" + k + ", 0)", x.least(k, 0), rows[k][0]);
            due("least(" + k + ", 1)", x.least(k, 1), rows[k][1]);
        }
        the("NONE.");
        due("one too many", x.least(3, 0), NONE);
        due("one too many, its hop", x.least(3, 1), NONE);
        due("far too many", x.least(Integer.MAX_VALUE, 1), NONE);
        due("of an empty one", new LeastRoutes().least(0, 0), NONE);
        the("BAD: also k below 0.");
        for (int k : Sentences.below(0)) {
            due("least(" + k + ", 0)", x.least(k, 0), BAD);
        }
        for (int what : Sentences.outside(0, 1)) {
            due("least(0, " + what + ")", x.least(0, what), BAD);
            due("least(99, " + what + "), BAD ahead of NONE", x.least(99, what), BAD);
        }
    }

    private static void count() {
        section = "Promise 6: count";
        LeastRoutes x = Sentences.withText("*:1;0*:1;00*:2;000*:3;001*:3");
        the("0 PREFIXES of THE TABLE,");
        due("none", new LeastRoutes().count(0), 0);
        due("five", x.count(0), 5);
        due("forty", Sentences.fullTable().count(0), 40);
        the("1 of THE LEAST one,");
        due("none", Sentences.withText("*:0").count(1), 0);
        due("two", x.count(1), 2);
        the("5 REDUNDANT ones,");
        due("two", x.count(5), 2);
        due("none of none", new LeastRoutes().count(5), 0);
        due("all", Sentences.withText("*:0;0*:0;00000000:0").count(5), 3);
        countInstalled(x);
        countSteps();
        the("BAD.");
        for (int what : Sentences.outside(0, 7)) {
            due("count(" + what + ")", x.count(what), BAD);
        }
    }

    private static void countInstalled(LeastRoutes x) {
        the("2 of INSTALLED,");
        due("none", x.count(2), 0);
        LeastRoutes y = Sentences.withText("*:1;0*:1;00*:2;000*:3;001*:3");
        y.install();
        due("two", y.count(2), 2);
        the("3 CHANGES,");
        due("two", x.count(3), 2);
        due("none", y.count(3), 0);
        the("4 PREFIXES of PROOF,");
        due("three", x.count(4), 3);
        due("one, if all go one way", new LeastRoutes().count(4), 1);
        the("6 the least ADDRESS that has another HOP by INSTALLED than by THE TABLE (NONE),");
        due("the least of all", x.count(6), 0);
        due("none", y.count(6), NONE);
        y.tell(511, 7);
        due("the greatest of all", y.count(6), 255);
        y.tell(3, 6);
        due("the least of many", y.count(6), 128);
    }

    private static void countSteps() {
        the("7 what may be UNDONE.");
        LeastRoutes x = new LeastRoutes();
        due("none", x.count(7), 0);
        for (int k = 1; k <= 6; k++) {
            x.tell(256 + k, 1);
            due("one more", x.count(7), k);
        }
        x.tell(300, 1);
        due("six at most", x.count(7), 6);
        x.undo();
        due("one less", x.count(7), 5);
    }

    private static void change() {
        section = "Promise 7: change";
        LeastRoutes x = Sentences.withText("1*:1;111*:2");
        x.install();
        Sentences.typeAndRead(x, "0*:3;1*:1;110*:2");
        int[][] rows = {{1, NONE, 1, 1}, {2, NONE, 3, 1}, {3, 1, NONE, 0}, {14, NONE, 2, 1}, {15, 2, NONE, 0}};
        String[] words = {"0 its PREFIX,", "1 the HOP in INSTALLED (NONE),", "2 the HOP in THE LEAST table (NONE),"};
        the("CHANGE k (0 on):");
        for (int k = 0; k < 5; k++) {
            due("change(" + k + ", 0)", x.change(k, 0), rows[k][0]);
        }
        for (int what = 0; what < 3; what++) {
            the(words[what]);
            for (int k = 0; k < 5; k++) {
                due("change(" + k + ", " + what + ")", x.change(k, what), rows[k][what]);
            }
        }
        the("3 what it is: 0 it goes out, 1 it comes in, 2 its HOP becomes another one;");
        for (int k = 0; k < 5; k++) {
            due("change(" + k + ", 3)", x.change(k, 3), rows[k][3]);
        }
        anotherHop();
        the("NONE. BAD: also k below 0.");
        for (int what = 0; what < 4; what++) {
            due("one too many", x.change(5, what), NONE);
            due("far too many", x.change(Integer.MAX_VALUE, what), NONE);
            due("k below 0", x.change(-1, what), BAD);
            due("k far below 0", x.change(Integer.MIN_VALUE, what), BAD);
            due("of none", new LeastRoutes().change(0, what), NONE);
        }
        for (int what : Sentences.outside(0, 3)) {
            due("change(0, " + what + ")", x.change(0, what), BAD);
            due("change(99, " + what + "), BAD ahead of NONE", x.change(99, what), BAD);
        }
    }

    private static void anotherHop() {
        LeastRoutes x = Sentences.withText("0*:3;1*:1;110*:2");
        x.install();
        x.rename(2, 6);
        int[] row = {14, 2, 6, 2};
        for (int what = 0; what < 4; what++) {
            due("another hop, what " + what, x.change(0, what), row[what]);
        }
        x.rename(6, 0);
        int[] toZero = {14, 2, 0, 2};
        for (int what = 0; what < 4; what++) {
            due("hop 0 is a hop, what " + what, x.change(0, what), toZero[what]);
        }
    }

    private static void proof() {
        section = "Promise 8: proof";
        LeastRoutes x = Sentences.withText("1*:1;111*:2");
        x.install();
        Sentences.typeAndRead(x, "0*:3;1*:1;110*:2");
        int[][] rows = {{2, 3, 0}, {6, 1, 1}, {14, 2, 1}, {15, 1, 2}};
        String[] words = {"0 its number,", "1 the HOP by THE TABLE,", "2 by INSTALLED;"};
        the("PREFIX k (0 on) of PROOF:");
        for (int k = 0; k < 4; k++) {
            due("proof(" + k + ", 0)", x.proof(k, 0), rows[k][0]);
        }
        for (int what = 0; what < 3; what++) {
            the(words[what]);
            for (int k = 0; k < 4; k++) {
                due("proof(" + k + ", " + what + ")", x.proof(k, what), rows[k][what]);
            }
        }
        the("NONE. BAD: also k below 0.");
        for (int what = 0; what < 3; what++) {
            due("one too many", x.proof(4, what), NONE);
            due("far too many", x.proof(Integer.MAX_VALUE, what), NONE);
            due("k below 0", x.proof(-1, what), BAD);
            due("k far below 0", x.proof(Integer.MIN_VALUE, what), BAD);
        }
        for (int what : Sentences.outside(0, 2)) {
            due("proof(0, " + what + ")", x.proof(0, what), BAD);
            due("proof(99, " + what + "), BAD ahead of NONE", x.proof(99, what), BAD);
        }
    }

    private static void lost() {
        section = "Promise 9: lost";
        LeastRoutes x = Sentences.withText("*:1;1*:2;11*:1;111*:1");
        // By 3 of 10 for 255: 111* stays; or 11* stays; or all three are lost and * stays: (7000 + 2100 + 189) / 10000.
        the("LOST: above (what 0),");
        due("lost(255, 3, 0)", x.lost(255, 3, 0), 9289);
        due("lost(128, 5, 0)", x.lost(128, 5, 0), 1);
        due("lost(0, 4, 0)", x.lost(0, 4, 0), 3);
        the("below (1).");
        due("lost(255, 3, 1)", x.lost(255, 3, 1), 10000);
        due("lost(128, 5, 1)", x.lost(128, 5, 1), 2);
        due("lost(0, 4, 1)", x.lost(0, 4, 1), 5);
        the("BAD.");
        for (int what = 0; what < 2; what++) {
            for (int a : Sentences.outside(0, 255)) {
                due("lost(" + a + ", 1, " + what + ")", x.lost(a, 1, what), BAD);
            }
            for (int c : Sentences.outside(0, 10)) {
                due("lost(1, " + c + ", " + what + ")", x.lost(1, c, what), BAD);
            }
        }
        for (int what : Sentences.outside(0, 1)) {
            due("lost(1, 1, " + what + ")", x.lost(1, 1, what), BAD);
        }
    }

    public static void main(String[] args) {
        newObject();
        look();
        prefix();
        cost();
        least();
        count();
        change();
        proof();
        lost();
        Sentences.end("Promise 1: A new object", "Promise 2: look", "Promise 3: prefix", "Promise 4: cost",
            "Promise 5: least", "Promise 6: count", "Promise 7: change", "Promise 8: proof", "Promise 9: lost");
    }
}

/** Promises 10 to 20, sentence by sentence: what is done. */
public final class StepCallsTest {
    private static final int BAD = Sentences.BAD, NOT = Sentences.NOT, FULL = Sentences.FULL, NONE = Sentences.NONE;
    private static String section = "";

    private static void the(String words) {
        Sentences.the(section, words);
    }

    private static void due(String call, int got, int want) {
        Sentences.due(call, got, want);
    }

    private static void tell() {
        section = "Promise 10: tell";
        the("A PREFIX gets a HOP in THE TABLE: what it had (8: it was not there).");
        LeastRoutes x = new LeastRoutes();
        due("the greatest, new", x.tell(511, 0), 8);
        due("the least, new", x.tell(1, 7), 8);
        due("from hop 0", x.tell(511, 7), 0);
        due("from hop 7", x.tell(511, 3), 7);
        due("it has that", x.prefix(511, 0), 3);
        due("the other one stays", x.prefix(1, 0), 7);
        due("two are there", x.count(0), 2);
        the("BAD;");
        for (int p : Sentences.outside(1, 511)) {
            due("tell(" + p + ", 0)", x.tell(p, 0), BAD);
        }
        for (int hop : Sentences.outside(0, 7)) {
            due("tell(1, " + hop + ")", x.tell(1, hop), BAD);
            due("tell(2, " + hop + "), a new one", x.tell(2, hop), BAD);
        }
        the("NOT: it has that;");
        due("as it is", x.tell(1, 7), NOT);
        due("hop 0 as it is", Sentences.withText("*:0").tell(1, 0), NOT);
        due("hop 0 where there is none is new", new LeastRoutes().tell(1, 0), 8);
        tellFull();
    }

    private static void tellFull() {
        the("FULL.");
        LeastRoutes x = Sentences.fullTable();
        due("one more", x.tell(1, 1), FULL);
        due("as it is", x.tell(256, 1), NOT);
        due("another hop of one that is there", x.tell(256, 2), 1);
        due("still full", x.tell(511, 0), FULL);
        due("forty", x.count(0), 40);
        due("one goes", x.out(256), 2);
        due("room for one", x.tell(511, 0), 8);
        due("and no more", x.tell(256, 2), FULL);
    }

    private static void out() {
        section = "Promise 11: out";
        LeastRoutes x = Sentences.withText("*:4;11111111:0;10*:7");
        the("A PREFIX is out of THE TABLE: its HOP.");
        due("the greatest", x.out(511), 0);
        due("the least", x.out(1), 4);
        due("it is gone", x.prefix(1, 0), NONE);
        due("the other stays", x.prefix(6, 0), 7);
        due("one is there", x.count(0), 1);
        the("BAD;");
        for (int p : Sentences.outside(1, 511)) {
            due("out(" + p + ")", x.out(p), BAD);
        }
        the("NONE.");
        due("it is out", x.out(511), NONE);
        due("it never was there", x.out(2), NONE);
        due("the last one", x.out(6), 7);
        due("of an empty table", x.out(6), NONE);
    }

    private static void rename() {
        section = "Promise 12: rename";
        LeastRoutes x = Sentences.withText("*:4;0*:5;1*:4;11*:0");
        x.install();
        the("A HOP is RENAMED: all PREFIXES of THE TABLE that have it get another one: how many.");
        due("two", x.rename(4, 5), 2);
        int[] numbers = {1, 2, 3, 7};
        int[] hops = {5, 5, 5, 0};
        for (int k = 0; k < 4; k++) {
            due("prefix(" + numbers[k] + ", 0)", x.prefix(numbers[k], 0), hops[k]);
        }
        due("INSTALLED keeps its hop", x.look(128, 2), 4);
        due("hop 0 to the greatest", x.rename(0, 7), 1);
        due("hop 7 to the least", x.rename(7, 0), 1);
        due("the least prefix alone", Sentences.withText("*:4").rename(4, 5), 1);
        due("the greatest prefix alone", Sentences.withText("11111111:4").rename(4, 5), 1);
        due("all forty", renameForty(), 40);
        the("BAD;");
        for (int hop : Sentences.outside(0, 7)) {
            due("rename(" + hop + ", 3)", x.rename(hop, 3), BAD);
            due("rename(5, " + hop + ")", x.rename(5, hop), BAD);
            due("the same, BAD ahead of NOT", x.rename(hop, hop), BAD);
        }
        the("NOT: it's the same;");
        due("a hop that is there", x.rename(5, 5), NOT);
        due("one that is not, NOT ahead of NONE", x.rename(3, 3), NOT);
        the("NONE: none has it.");
        due("it was renamed", x.rename(4, 5), NONE);
        due("hop 0 that no prefix has", new LeastRoutes().rename(0, 7), NONE);
    }

    private static int renameForty() {
        LeastRoutes x = Sentences.fullTable();
        for (int hop = 2; hop <= 7; hop++) {
            x.rename(hop, 1);
        }
        return x.rename(1, 0);
    }

    private static void install() {
        section = "Promise 13: install";
        the("THE LEAST table is INSTALLED: how many CHANGES.");
        LeastRoutes x = Sentences.withText("0*:1;1*:2");
        due("two come in", x.install(), 2);
        due("prefix(1, 1)", x.prefix(1, 1), 1);
        due("prefix(2, 1)", x.prefix(2, 1), NONE);
        due("prefix(3, 1)", x.prefix(3, 1), 2);
        due("the table stays", x.prefix(2, 0), 1);
        due("no change is left", x.count(3), 0);
        x.tell(3, 4);
        due("one hop becomes another", x.install(), 1);
        Sentences.typeAndRead(x, "*:0");
        due("all go out", x.install(), 2);
        due("none is installed", x.count(2), 0);
        the("NOT: none.");
        due("of an empty one again", x.install(), NOT);
        LeastRoutes same = Sentences.withText("0*:1;1*:2");
        same.install();
        due("at once again", same.install(), NOT);
        same.tell(2, 3);
        same.tell(2, 1);
        due("a step and back", same.install(), NOT);
        due("refused is no step", same.count(7), 4);
        due("none of a new object", new LeastRoutes().install(), NOT);
        x.tell(511, 0);
        due("the table is another one, the least one is not", x.install(), NOT);
    }

    private static void type() {
        section = "Promise 14: type";
        LeastRoutes x = new LeastRoutes();
        the("One letter more behind THE TAPE: how many it has.");
        due("the least letter", x.type(32), 1);
        due("the greatest letter", x.type(126), 2);
        due("behind the others", x.read(), -21);
        due("from one on then", x.type('*'), 1);
        due("two", x.type(':'), 2);
        due("three", x.type('5'), 3);
        due("in their order", x.read(), 1);
        the("BAD: not 32 .. 126;");
        for (int letter : Sentences.outside(32, 126)) {
            due("type(" + letter + ")", x.type(letter), BAD);
        }
        due("none was added", x.type('0'), 1);
        the("FULL: 100.");
        for (int k = 2; k <= 100; k++) {
            due("letter " + k, x.type('0'), k);
        }
        due("one more", x.type('0'), FULL);
        due("and again", x.type(' '), FULL);
        due("BAD ahead of FULL", x.type(31), BAD);
        x.read();
        due("from one on then", x.type('0'), 1);
    }

    private static void read() {
        section = "Promise 15: read";
        the("THE TAPE,");
        LeastRoutes x = new LeastRoutes();
        due("no letter", x.read(), -20);
        due("a text", Sentences.typeAndRead(x, "0*:1;1*:2"), 2);
        the("which is empty then (by a FAULT, too),");
        due("empty behind a text", x.read(), -20);
        due("a fault", Sentences.typeAndRead(x, "11*:x"), -24);
        due("empty behind a fault", x.read(), -20);
        due("the first letter then", x.type('*'), 1);
        x.read();
        the("is a TEXT: how many PREFIXES.");
        due("one", Sentences.typeAndRead(x, "*:0"), 1);
        due("it is all of the table", x.count(0), 1);
        due("what was there is gone", x.prefix(2, 0), NONE);
        due("what was told is there", x.prefix(1, 0), 0);
        due("a hundred letters", readHundred(x), 15);
        due("fewer letters than those ahead", Sentences.typeAndRead(x, "111*:3"), 1);
        due("one is there", x.count(0), 1);
        readFault(x);
    }

    private static int readHundred(LeastRoutes x) {
        String text = "*:1;0*:1;1*:1;00*:1;01*:1;10*:1;11*:1;000*:1;001*:1;010*:1;011*:1;100*:1;101*:1;110*:1;111*:1";
        return Sentences.typeAndRead(x, text + " ".repeat(100 - text.length()));
    }

    private static void readFault(LeastRoutes x) {
        the("A FAULT: -20 less its place (all else stays).");
        int known = x.count(7);
        due("at the first letter", Sentences.typeAndRead(x, "x"), -20);
        due("at the second letter", Sentences.typeAndRead(x, "0x"), -21);
        due("behind an entry that is right", Sentences.typeAndRead(x, "00*:1;x"), -26);
        due("at the last letter", Sentences.typeAndRead(x, " ".repeat(99) + "x"), -119);
        due("at the end", Sentences.typeAndRead(x, " ".repeat(100)), -120);
        due("the table stays", x.count(0), 1);
        due("its prefix, too", x.prefix(15, 0), 3);
        due("none of the wrong text's", x.prefix(4, 0), NONE);
        due("it is no step", x.count(7), known);
    }

    private static void drift() {
        section = "Promise 16: drift";
        the("A DRIFT of n turns (1 .. 40;");
        due("one", new LeastRoutes().drift(1), 1);
        LeastRoutes x = new LeastRoutes();
        due("forty", x.drift(40) < 0 ? 1 : 0, 0);
        LeastRoutes y = new LeastRoutes();
        for (int k = 0; k < 40; k++) {
            y.drift(1);
        }
        due("as forty of one", x.count(0), y.count(0));
        due("the draw as by forty of one", x.seed(0), y.seed(0));
        the("each may be UNDONE, one that changes nothing, too):");
        LeastRoutes three = new LeastRoutes();
        three.drift(3);
        due("three turns", three.count(7), 3);
        three.undo();
        due("two turns", three.count(0), 2);
        LeastRoutes full = Sentences.fullTable();
        full.out(284);
        full.tell(1, 1);
        full.tell(1, 2);
        due("five are known", full.undo(), 5);
        due("a turn that tells 284, a new one", full.drift(1), 40);
        due("nothing, as 40 are there", full.prefix(284, 0), NONE);
        due("it is a step all the same", full.count(7), 6);
        due("it may be undone", full.undo(), 5);
        due("the step ahead of it stays", full.prefix(1, 0), 1);
        due("its draw, too", full.seed(1), 1);
        the("PREFIXES of THE TABLE then.");
        due("of a full one, by many", Sentences.fullTable().drift(40) <= 40 ? 1 : 0, 1);
        due("as counted", y.drift(7), y.count(0));
        LeastRoutes again = new LeastRoutes();
        again.drift(1);
        again.seed(1);
        due("the same again: out", again.drift(1), 0);
        the("BAD.");
        for (int n : Sentences.outside(1, 40)) {
            due("drift(" + n + ")", x.drift(n), BAD);
        }
        due("the draw stays", x.seed(0), 0);
    }

    private static void undo() {
        section = "Promise 17: undo";
        the("UNDONE: how many more may be.");
        LeastRoutes x = new LeastRoutes();
        for (int k = 0; k < 9; k++) {
            x.tell(256 + k, 1);
        }
        for (int k = 5; k >= 0; k--) {
            due("of six", x.undo(), k);
            due("one prefix less", x.count(0), 3 + k);
        }
        the("NONE: none is known.");
        due("older ones are lost", x.undo(), NONE);
        due("three stay", x.count(0), 3);
        due("of a new object", new LeastRoutes().undo(), NONE);
        x.tell(1, 1);
        due("one step then", x.undo(), 0);
        due("and none", x.undo(), NONE);
    }

    private static void seed() {
        section = "Promise 18: seed";
        LeastRoutes x = new LeastRoutes();
        the("THE DRAW becomes v: what it was.");
        due("the least", x.seed(0), 1);
        due("the greatest", x.seed(Integer.MAX_VALUE), 0);
        due("it is that", x.seed(7), Integer.MAX_VALUE);
        due("the same again", x.seed(7), 7);
        due("it is no step", x.count(7), 0);
        x.seed(0);
        x.drift(1);
        due("a drift goes on from it", x.seed(7), 12345);
        the("BAD: below 0.");
        for (int v : Sentences.below(0)) {
            due("seed(" + v + ")", x.seed(v), BAD);
        }
        due("it stays", x.seed(0), 7);
    }

    /** A table of three, two installed, four steps known, a draw told; kept. */
    private static LeastRoutes withImage() {
        LeastRoutes x = Sentences.withText("0*:1;1*:2");
        x.install();
        x.tell(256, 3);
        x.tell(511, 4);
        x.out(511);
        x.tell(300, 5);
        x.undo();
        x.seed(42);
        due("image()", x.image(), 1);
        return x;
    }

    private static void changeAll(LeastRoutes x) {
        x.out(256);
        x.rename(1, 6);
        x.install();
        x.drift(9);
        x.install();
        x.seed(5);
    }

    private static void isAsKept(LeastRoutes x) {
        due("the table", x.count(0), 3);
        due("its prefix", x.prefix(256, 0), 3);
        due("its hop", x.prefix(2, 0), 1);
        due("the least table", x.look(0, 3), 3);
        due("installed", x.count(2), 2);
        due("its hop", x.look(0, 2), 1);
        due("what may be undone", x.count(7), 5);
        due("the draw", x.seed(42), 42);
    }

    private static void image() {
        section = "Promise 19: image";
        the("All but SHEETS, THE TAPE is kept as an IMAGE");
        LeastRoutes x = withImage();
        isAsKept(x);
        x.type('*');
        x.type(':');
        x.sheet(0, 2, 9);
        x.sheet(1, 2, 9);
        due("image with a tape, sheets", x.image(), 1);
        x.type('5');
        x.drop(0);
        x.sheet(1, 3, 4);
        x.restore();
        due("a sheet dropped since stays so", x.drop(0), Sentences.NULL);
        due("a sheet made since stays so", x.drop(1), 4);
        due("the tape stays as it is", x.read(), 1);
        due("three letters", x.prefix(1, 0), 5);
        the("(what may be UNDONE, too): 1.");
        LeastRoutes y = withImage();
        changeAll(y);
        y.restore();
        undoAllKept(y);
        LeastRoutes z = withImage();
        changeAll(z);
        due("a later image", z.image(), 1);
        int prefixes = z.count(0);
        z.out(1);
        z.drift(2);
        z.restore();
        due("the later one counts", z.count(0), prefixes);
    }

    /** The steps ahead of the image are undone one by one: text, install, tell, tell, out. */
    private static void undoAllKept(LeastRoutes x) {
        due("of out", x.undo(), 4);
        due("it is back", x.prefix(511, 0), 4);
        due("the draw ahead of it", x.seed(1), 1);
        due("of tell", x.undo(), 3);
        due("it is gone", x.prefix(511, 0), NONE);
        due("of tell", x.undo(), 2);
        due("two are there", x.count(0), 2);
        due("two are installed", x.count(2), 2);
        due("of install", x.undo(), 1);
        due("none is installed", x.count(2), 0);
        due("of the text", x.undo(), 0);
        due("none is there", x.count(0), 0);
        due("no more", x.undo(), NONE);
    }

    private static void restore() {
        section = "Promise 20: restore";
        the("All is as it was then: 1.");
        LeastRoutes x = withImage();
        changeAll(x);
        due("the least table is looked at ahead of it", x.look(0, 3) == 3 ? 1 : 0, 0);
        due("restore()", x.restore(), 1);
        isAsKept(x);
        x.undo();
        x.undo();
        x.undo();
        changeAll(x);
        due("once more", x.restore(), 1);
        isAsKept(x);
        undoAllKept(x);
        due("behind undo", x.restore(), 1);
        isAsKept(x);
        due("at once again", x.restore(), 1);
        isAsKept(x);
        LeastRoutes empty = new LeastRoutes();
        empty.image();
        empty.drift(40);
        empty.install();
        due("an image of a new object", empty.restore(), 1);
        due("none is there", empty.count(0), 0);
        due("none is installed", empty.count(2), 0);
        due("none may be undone", empty.undo(), NONE);
        due("the draw", empty.seed(1), 1);
        the("NONE: there is none.");
        LeastRoutes none = Sentences.withText("*:1");
        due("none was kept", none.restore(), NONE);
        due("the table stays", none.count(0), 1);
        due("the step stays", none.count(7), 1);
    }

    public static void main(String[] args) {
        tell();
        out();
        rename();
        install();
        type();
        read();
        drift();
        undo();
        seed();
        image();
        restore();
        Sentences.end("Promise 10: tell", "Promise 11: out", "Promise 12: rename", "Promise 13: install",
            "Promise 14: type", "Promise 15: read", "Promise 16: drift", "Promise 17: undo", "Promise 18: seed",
            "Promise 19: image", "Promise 20: restore");
    }
}

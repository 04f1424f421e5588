/** Each promise by hand: ordinary inputs, the edges that the document names, wrong inputs. */
public final class PromisesTest {
    private static final int BAD = -1, NOT = -2, FULL = -3, NONE = -4, NULL = -11, CAST = -12, INDEX = -13, SIZE = -14;
    private static int wrong = 0;
    private static String promise = "";

    private static void due(String call, int got, int want) {
        if (got != want) {
            wrong++;
            System.out.println("promise " + promise + ": " + call + " answered " + got + ", due is " + want);
        }
    }

    private static int typeAndRead(LeastRoutes x, String text) {
        for (int i = 0; i < text.length(); i++) {
            x.type(text.charAt(i));
        }
        return x.read();
    }

    private static LeastRoutes withText(String text) {
        LeastRoutes x = new LeastRoutes();
        typeAndRead(x, text);
        return x;
    }

    /** 40 prefixes of eight bits, with hops 1 .. 7 in turn. */
    private static LeastRoutes fullTable() {
        LeastRoutes x = new LeastRoutes();
        for (int k = 0; k < 40; k++) {
            due("tell as the table fills", x.tell(256 + k, 1 + k % 7), 8);
        }
        return x;
    }

    private static void newObject() {
        promise = "1";
        LeastRoutes x = new LeastRoutes();
        due("count(0)", x.count(0), 0);
        due("count(1)", x.count(1), 0);
        due("count(2)", x.count(2), 0);
        due("count(7)", x.count(7), 0);
        due("restore()", x.restore(), NONE);
        due("undo()", x.undo(), NONE);
        due("seed(5)", x.seed(5), 1);
        due("type", x.type('0'), 1);
        for (int s = 0; s < 4; s++) {
            due("drop", x.drop(s), NULL);
        }
        for (int a = 0; a < 256; a++) {
            due("look(a, 0)", x.look(a, 0), 0);
        }
    }

    private static void look() {
        promise = "2";
        LeastRoutes x = withText("1*:1;10*:2;10000000:3");
        due("look(127, 0)", x.look(127, 0), 0);
        due("look(127, 1)", x.look(127, 1), NONE);
        due("look(128, 0)", x.look(128, 0), 3);
        due("look(128, 1)", x.look(128, 1), 256 + 128);
        due("look(129, 0)", x.look(129, 0), 2);
        due("look(129, 1)", x.look(129, 1), 6);
        due("look(191, 1)", x.look(191, 1), 6);
        due("look(192, 0)", x.look(192, 0), 1);
        due("look(192, 1)", x.look(192, 1), 3);
        due("look(255, 2)", x.look(255, 2), 0);
        x.install();
        x.tell(3, 5);
        due("look(255, 0) after tell", x.look(255, 0), 5);
        due("look(255, 2) after tell", x.look(255, 2), 1);
        due("look(255, 3) after tell", x.look(255, 3), 5);
        due("look(128, 3) after tell", x.look(128, 3), 3);
        due("look(-1, 0)", x.look(-1, 0), BAD);
        due("look(256, 0)", x.look(256, 0), BAD);
        due("look(0, -1)", x.look(0, -1), BAD);
        due("look(0, 4)", x.look(0, 4), BAD);
        due("look(min, 1)", x.look(Integer.MIN_VALUE, 1), BAD);
        due("look(max, 1)", x.look(Integer.MAX_VALUE, 1), BAD);
    }

    private static void prefix() {
        promise = "3";
        LeastRoutes x = withText("0*:1;10*:2;11*:2;110*:4;111*:2");
        due("prefix(3, 0)", x.prefix(3, 0), NONE);
        due("prefix(2, 0)", x.prefix(2, 0), 1);
        due("prefix(2, 1)", x.prefix(2, 1), NONE);
        due("prefix(1, 2), the least hop of its set", x.prefix(1, 2), 1);
        due("prefix(2, 2)", x.prefix(2, 2), NONE);
        due("prefix(3, 2)", x.prefix(3, 2), 2);
        due("prefix(14, 2)", x.prefix(14, 2), 4);
        due("prefix(7, 2)", x.prefix(7, 2), NONE);
        due("prefix(1, 3)", x.prefix(1, 3), 0b110);
        due("prefix(3, 3)", x.prefix(3, 3), 0b100);
        due("prefix(7, 3)", x.prefix(7, 3), 0b10100);
        due("prefix(1, 4)", x.prefix(1, 4), 2);
        due("prefix(7, 4)", x.prefix(7, 4), 1);
        due("prefix(14, 4)", x.prefix(14, 4), 0);
        due("prefix(1, 5)", x.prefix(1, 5), 0b10110);
        due("prefix(2, 5)", x.prefix(2, 5), 0b10);
        due("prefix(7, 5)", x.prefix(7, 5), 0b10100);
        due("prefix(7, 6), covered by longer ones", x.prefix(7, 6), 1);
        due("prefix(15, 6), as from above", x.prefix(15, 6), 1);
        due("prefix(14, 6)", x.prefix(14, 6), 0);
        due("prefix(6, 6)", x.prefix(6, 6), 0);
        due("prefix(3, 6)", x.prefix(3, 6), NONE);
        x.install();
        due("prefix(1, 1)", x.prefix(1, 1), 1);
        due("prefix(14, 1)", x.prefix(14, 1), 4);
        x.tell(8, 0);
        due("prefix(8, 6), hop 0 beneath 1", x.prefix(8, 6), 0);
        LeastRoutes y = withText("*:0;00000001:0;11111111:7");
        due("prefix(1, 6), hop 0 as if none", y.prefix(1, 6), 1);
        due("prefix(257, 6)", y.prefix(257, 6), 1);
        due("prefix(511, 6)", y.prefix(511, 6), 0);
        due("prefix(0, 0)", y.prefix(0, 0), BAD);
        due("prefix(512, 0)", y.prefix(512, 0), BAD);
        due("prefix(-1, 3)", y.prefix(-1, 3), BAD);
        due("prefix(1, -1)", y.prefix(1, -1), BAD);
        due("prefix(1, 7)", y.prefix(1, 7), BAD);
    }

    private static void cost() {
        promise = "4";
        LeastRoutes x = withText("0*:1;10*:2;110*:4;111*:2");
        due("cost(1, 0)", x.cost(1, 0), 3);
        due("cost(1, 1)", x.cost(1, 1), 2);
        due("cost(1, 2)", x.cost(1, 2), 2);
        due("cost(1, 4)", x.cost(1, 4), 3);
        due("cost(3, 2)", x.cost(3, 2), 1);
        due("cost(3, 4)", x.cost(3, 4), 2);
        due("cost(7, 4)", x.cost(7, 4), 1);
        due("cost(511, 2)", x.cost(511, 2), 0);
        due("cost(511, 7)", x.cost(511, 7), 1);
        due("cost(0, 0)", x.cost(0, 0), BAD);
        due("cost(512, 0)", x.cost(512, 0), BAD);
        due("cost(1, -1)", x.cost(1, -1), BAD);
        due("cost(1, 8)", x.cost(1, 8), BAD);
        costByAllSets();
    }

    /** The definition itself: all sets of prefixes with hops 0 .. 2 (or none) beneath one of two bits fewer than eight. */
    private static void costByAllSets() {
        LeastRoutes x = new LeastRoutes();
        int[] hops = {1, 2, 0, 2};
        for (int round = 0; round < 12; round++) {
            int[] sent = new int[4];
            for (int a = 0; a < 4; a++) {
                sent[a] = hops[(a * (round % 3 + 1) + round / 3) % 4];
                x.tell(256 + 4 * round + a, sent[a]);
            }
            for (int h = 0; h < 3; h++) {
                due("cost by all sets, round " + round, x.cost(64 + round, h), fewest(sent, h));
            }
            for (int a = 0; a < 4; a++) {
                x.out(256 + 4 * round + a);
            }
        }
    }

    private static int fewest(int[] sent, int fromAbove) {
        int best = 99;
        for (int set = 0; set < 16384; set++) {
            int[] hopOf = new int[8];
            int used = 0;
            for (int q = 1; q < 8; q++) {
                hopOf[q] = (set >> (2 * (q - 1)) & 3) - 1;
                used += hopOf[q] >= 0 ? 1 : 0;
            }
            boolean right = true;
            for (int a = 0; a < 4; a++) {
                int got = fromAbove;
                for (int q : new int[] {1, 2 + a / 2, 4 + a}) {
                    got = hopOf[q] >= 0 ? hopOf[q] : got;
                }
                right &= got == sent[a];
            }
            best = right ? Math.min(best, used) : best;
        }
        return best;
    }

    private static void least() {
        promise = "5";
        LeastRoutes x = withText("0*:1;10*:2;110*:4;111*:2");
        due("count(1)", x.count(1), 3);
        due("least(0, 0)", x.least(0, 0), 1);
        due("least(0, 1)", x.least(0, 1), 1);
        due("least(1, 0)", x.least(1, 0), 3);
        due("least(1, 1)", x.least(1, 1), 2);
        due("least(2, 0)", x.least(2, 0), 14);
        due("least(2, 1)", x.least(2, 1), 4);
        due("least(3, 0)", x.least(3, 0), NONE);
        due("least(3, 1)", x.least(3, 1), NONE);
        due("least(max, 0)", x.least(Integer.MAX_VALUE, 0), NONE);
        due("least(-1, 0)", x.least(-1, 0), BAD);
        due("least(0, -1)", x.least(0, -1), BAD);
        due("least(0, 2)", x.least(0, 2), BAD);
        due("least(99, 2)", x.least(99, 2), BAD);
        LeastRoutes y = withText("0*:0;1*:5");
        due("hop 0 comes to 1", y.least(0, 0), 3);
        due("its hop", y.least(0, 1), 5);
        due("no more", y.least(1, 0), NONE);
        LeastRoutes z = withText("11111111:6");
        due("eight bits", z.least(0, 0), 511);
    }

    private static void count() {
        promise = "6";
        LeastRoutes x = withText("*:1;0*:1;00*:2;000*:3;001*:3");
        due("count(0)", x.count(0), 5);
        due("count(1)", x.count(1), 2);
        due("count(2)", x.count(2), 0);
        due("count(3)", x.count(3), 2);
        due("count(4)", x.count(4), 3);
        due("count(5)", x.count(5), 2);
        due("count(6)", x.count(6), 0);
        due("count(7)", x.count(7), 1);
        x.install();
        due("count(2) then", x.count(2), 2);
        due("count(3) then", x.count(3), 0);
        due("count(6) then", x.count(6), NONE);
        due("count(7) then", x.count(7), 2);
        x.tell(511, 7);
        due("count(6) at the last address", x.count(6), 255);
        due("count(-1)", x.count(-1), BAD);
        due("count(8)", x.count(8), BAD);
        LeastRoutes y = new LeastRoutes();
        y.drift(40);
        due("count(7) is six at most", y.count(7), 6);
    }

    private static void change() {
        promise = "7";
        LeastRoutes x = withText("1*:1;111*:2");
        x.install();
        typeAndRead(x, "0*:3;1*:1;110*:2");
        due("count(3)", x.count(3), 5);
        int[][] changes = {{1, NONE, 1, 1}, {2, NONE, 3, 1}, {3, 1, NONE, 0}, {14, NONE, 2, 1}, {15, 2, NONE, 0}};
        for (int k = 0; k < changes.length; k++) {
            for (int what = 0; what < 4; what++) {
                due("change(" + k + ", " + what + ")", x.change(k, what), changes[k][what]);
            }
        }
        due("change(5, 0)", x.change(5, 0), NONE);
        due("change(5, 3)", x.change(5, 3), NONE);
        due("change(-1, 0)", x.change(-1, 0), BAD);
        due("change(0, -1)", x.change(0, -1), BAD);
        due("change(0, 4)", x.change(0, 4), BAD);
        due("change(99, 4)", x.change(99, 4), BAD);
        x.install();
        x.rename(2, 6);
        due("change(0, 0) another hop", x.change(0, 0), 14);
        due("change(0, 1) another hop", x.change(0, 1), 2);
        due("change(0, 2) another hop", x.change(0, 2), 6);
        due("change(0, 3) another hop", x.change(0, 3), 2);
        due("change(1, 0) no more", x.change(1, 0), NONE);
    }

    private static void proof() {
        promise = "8";
        LeastRoutes x = withText("1*:1;111*:2");
        x.install();
        typeAndRead(x, "0*:3;1*:1;110*:2");
        int[][] parts = {{2, 3, 0}, {6, 1, 1}, {14, 2, 1}, {15, 1, 2}};
        due("count(4)", x.count(4), 4);
        for (int k = 0; k < parts.length; k++) {
            for (int what = 0; what < 3; what++) {
                due("proof(" + k + ", " + what + ")", x.proof(k, what), parts[k][what]);
            }
        }
        due("proof(4, 0)", x.proof(4, 0), NONE);
        due("proof(4, 2)", x.proof(4, 2), NONE);
        due("proof(-1, 0)", x.proof(-1, 0), BAD);
        due("proof(0, -1)", x.proof(0, -1), BAD);
        due("proof(0, 3)", x.proof(0, 3), BAD);
        due("proof(99, 3)", x.proof(99, 3), BAD);
        LeastRoutes y = withText("00000001:4");
        due("proof(0, 0)", y.proof(0, 0), 256);
        due("proof(1, 0)", y.proof(1, 0), 257);
        due("proof(1, 1)", y.proof(1, 1), 4);
        due("proof(2, 0)", y.proof(2, 0), 129);
        due("proof(8, 0)", y.proof(8, 0), 3);
    }

    private static void lost() {
        promise = "9";
        LeastRoutes x = withText("*:1;1*:2;11*:1;111*:1");
        // 1 - 3/10, then of what is lost 1 - 3/10, then by 1* lost and * there.
        due("lost(255, 3, 0)", x.lost(255, 3, 0), 9289);
        due("lost(255, 3, 1)", x.lost(255, 3, 1), 10000);
        due("lost(128, 5, 0)", x.lost(128, 5, 0), 1);
        due("lost(128, 5, 1)", x.lost(128, 5, 1), 2);
        due("lost(0, 4, 0)", x.lost(0, 4, 0), 3);
        due("lost(0, 4, 1)", x.lost(0, 4, 1), 5);
        due("lost(255, 0, 0)", x.lost(255, 0, 0), 1);
        due("lost(255, 0, 1)", x.lost(255, 0, 1), 1);
        due("lost(255, 10, 0)", x.lost(255, 10, 0), 0);
        due("lost(255, 10, 1)", x.lost(255, 10, 1), 1);
        LeastRoutes y = withText("*:1;0*:2;00*:3;000*:4;0000*:5;00000*:6;000000*:7;0000000*:1;00000000:0");
        due("nine lost, hop 0 stays, above", y.lost(0, 9, 0), 100000000 + 387420489);
        due("nine lost, hop 0 stays, below", y.lost(0, 9, 1), 1000000000);
        due("lost(-1, 0, 0)", y.lost(-1, 0, 0), BAD);
        due("lost(256, 0, 0)", y.lost(256, 0, 0), BAD);
        due("lost(0, -1, 0)", y.lost(0, -1, 0), BAD);
        due("lost(0, 11, 0)", y.lost(0, 11, 0), BAD);
        due("lost(0, 0, -1)", y.lost(0, 0, -1), BAD);
        due("lost(0, 0, 2)", y.lost(0, 0, 2), BAD);
    }

    private static void tell() {
        promise = "10";
        LeastRoutes x = fullTable();
        due("tell(1, 1) as one more", x.tell(1, 1), FULL);
        due("tell(256, 1) as it is", x.tell(256, 1), NOT);
        due("tell(256, 0) as another one", x.tell(256, 0), 1);
        due("prefix(256, 0)", x.prefix(256, 0), 0);
        due("tell(256, 3) from hop 0", x.tell(256, 3), 0);
        due("count(0)", x.count(0), 40);
        due("tell(0, 0)", x.tell(0, 0), BAD);
        due("tell(512, 0)", x.tell(512, 0), BAD);
        due("tell(1, -1)", x.tell(1, -1), BAD);
        due("tell(1, 8)", x.tell(1, 8), BAD);
        LeastRoutes y = new LeastRoutes();
        due("tell(511, 0)", y.tell(511, 0), 8);
        due("tell(511, 0) again", y.tell(511, 0), NOT);
        due("refused is no step", y.count(7), 1);
    }

    private static void out() {
        promise = "11";
        LeastRoutes x = withText("*:4;11111111:0");
        due("out(511)", x.out(511), 0);
        due("out(511) again", x.out(511), NONE);
        due("out(1)", x.out(1), 4);
        due("count(0)", x.count(0), 0);
        due("out(0)", x.out(0), BAD);
        due("out(512)", x.out(512), BAD);
        due("refused is no step", x.count(7), 3);
        LeastRoutes y = fullTable();
        y.out(260);
        due("room for one again", y.tell(1, 1), 8);
        due("and no more", y.tell(2, 1), FULL);
    }

    private static void rename() {
        promise = "12";
        LeastRoutes x = withText("*:4;0*:5;1*:4;11*:0");
        x.install();
        due("rename(4, 5)", x.rename(4, 5), 2);
        due("prefix(1, 0)", x.prefix(1, 0), 5);
        due("prefix(3, 0)", x.prefix(3, 0), 5);
        due("prefix(2, 0)", x.prefix(2, 0), 5);
        due("prefix(7, 0)", x.prefix(7, 0), 0);
        due("INSTALLED keeps its hop", x.look(128, 2), 4);
        due("rename(4, 5) again", x.rename(4, 5), NONE);
        due("rename(3, 3)", x.rename(3, 3), NOT);
        due("rename(-1, 3)", x.rename(-1, 3), BAD);
        due("rename(8, 3)", x.rename(8, 3), BAD);
        due("rename(8, 8)", x.rename(8, 8), BAD);
        due("rename(3, -1)", x.rename(3, -1), BAD);
        due("rename(3, 8)", x.rename(3, 8), BAD);
        due("refused is no step", x.count(7), 3);
        due("rename(5, 0)", x.rename(5, 0), 3);
        due("rename(0, 7)", x.rename(0, 7), 4);
        due("addresses without a prefix keep hop 0", new LeastRoutes().rename(0, 7), NONE);
    }

    private static void install() {
        promise = "13";
        LeastRoutes x = withText("0*:1;1*:2");
        due("install()", x.install(), 2);
        due("prefix(1, 1)", x.prefix(1, 1), 1);
        due("prefix(2, 1)", x.prefix(2, 1), NONE);
        due("prefix(3, 1)", x.prefix(3, 1), 2);
        due("install() again", x.install(), NOT);
        due("refused is no step", x.count(7), 2);
        typeAndRead(x, "*:0");
        due("install() of none", x.install(), 2);
        due("count(2)", x.count(2), 0);
        due("the table stays", x.count(0), 1);
        due("a new one", new LeastRoutes().install(), NOT);
    }

    private static void type() {
        promise = "14";
        LeastRoutes x = new LeastRoutes();
        due("type(31)", x.type(31), BAD);
        due("type(127)", x.type(127), BAD);
        due("type(-1)", x.type(-1), BAD);
        due("type(32)", x.type(32), 1);
        due("type(126)", x.type(126), 2);
        for (int k = 3; k <= 100; k++) {
            due("type as the tape fills", x.type('0'), k);
        }
        due("one more", x.type('0'), FULL);
        due("one more that is none", x.type(0), BAD);
        due("read()", x.read(), -21);
        due("empty then", x.type('*'), 1);
    }

    private static void read() {
        promise = "15";
        String[] texts = {
            "*:0", "01010101:7", "0*:1;1*:2", " 0 1 * : 3 ; * : 4 ", "*:1;0*:1;00*:1", "0*:7;00000000:7",
        };
        int[] prefixes = {1, 1, 2, 2, 3, 2};
        for (int t = 0; t < texts.length; t++) {
            due("read of '" + texts[t] + "'", typeAndRead(new LeastRoutes(), texts[t]), prefixes[t]);
        }
        readFaults();
        LeastRoutes x = withText("0*:1;1*:2");
        due("read of another text", typeAndRead(x, "11*:3"), 1);
        due("the old is gone", x.prefix(2, 0), NONE);
        due("the new is there", x.prefix(7, 0), 3);
        due("a fault", typeAndRead(x, "00*:1;x"), -26);
        due("all else stays", x.prefix(7, 0), 3);
        due("all else stays", x.prefix(4, 0), NONE);
        due("a fault is no step", x.count(7), 2);
        due("the tape is empty", x.type('*'), 1);
        String longest = "*:1;0*:1;1*:1;00*:1;01*:1;10*:1;11*:1;000*:1;001*:1;010*:1;011*:1;100*:1;101*:1;110*:1;111*:1";
        due("a long text", typeAndRead(new LeastRoutes(), longest), 15);
    }

    private static void readFaults() {
        String[] texts = {
            "", "   ", "0", "0 ", "0:1", "2*:1", "*", "*:", "*:8", "*:1 ;", "*:1; ", "*:1 2", "*:1;;", ";*:1",
            "010101010:1", "01010101*:1", "0101010 1 :", "0**:1", "*0:1", "*:1;*:", "*:1; *:9", "*:1;*", "*:1;* ;",
            "0*:1;1*:2; 0*:3", "00000000:1;0000 0000:1", "00000000:1;0000 0000*:1", "0*:1;00*:1;0 *", "x", "*:x", "*;1",
        };
        int[] places = {
            0, 3, 1, 2, 1, 0, 1, 2, 2, 5, 5, 4, 4, 0,
            8, 8, 11, 2, 1, 4, 5, 5, 6,
            11, 11, 20, 14, 0, 2, 1,
        };
        for (int t = 0; t < texts.length; t++) {
            due("read of '" + texts[t] + "'", typeAndRead(new LeastRoutes(), texts[t]), -20 - places[t]);
        }
    }

    private static void drift() {
        promise = "16";
        LeastRoutes x = new LeastRoutes();
        due("drift(0)", x.drift(0), BAD);
        due("drift(41)", x.drift(41), BAD);
        due("drift(-1)", x.drift(-1), BAD);
        due("drift(1)", x.drift(1), 1);
        // 1103515245 + 12345 = 1103527590; x = 16838, length 8, the lowest 8 bits of 1052: 28; hop 4.
        due("the prefix", x.prefix(256 + 28, 0), 4);
        due("the draw", x.seed(1), 1103527590);
        due("drift(1) the same again: out", x.drift(1), 0);
        x.tell(256 + 28, 2);
        x.seed(1);
        due("drift(1) another hop", x.drift(1), 1);
        due("its hop", x.prefix(256 + 28, 0), 4);
        LeastRoutes y = fullTable();
        y.out(256 + 28);
        y.tell(1, 1);
        due("the draw ahead", y.seed(1), 1);
        due("nothing, as 40 are there", y.drift(1), 40);
        due("nothing told", y.prefix(256 + 28, 0), NONE);
        due("drawn all the same", y.seed(3), 1103527590);
        due("drift(40)", new LeastRoutes().drift(40) > 0 ? 1 : 0, 1);
        LeastRoutes z = new LeastRoutes();
        z.seed(Integer.MAX_VALUE);
        z.drift(1);
        due("31 bits", z.seed(0), (int) ((Integer.MAX_VALUE * 1103515245L + 12345L) & Integer.MAX_VALUE));
        z.drift(1);
        due("by seed 0", z.seed(0), 12345);
        due("hop 0 of prefix 1 by x = 0", z.prefix(1, 0), 0);
    }

    private static void undo() {
        promise = "17";
        LeastRoutes x = new LeastRoutes();
        x.tell(1, 1);
        x.tell(1, 2);
        x.seed(77);
        x.install();
        x.seed(99);
        x.rename(2, 3);
        x.out(1);
        typeAndRead(x, "0*:5");
        due("count(7)", x.count(7), 6);
        due("undo() of the text", x.undo(), 5);
        due("count(0)", x.count(0), 0);
        due("undo() of out", x.undo(), 4);
        due("prefix(1, 0)", x.prefix(1, 0), 3);
        due("undo() of rename", x.undo(), 3);
        due("prefix(1, 0)", x.prefix(1, 0), 2);
        due("look(0, 2)", x.look(0, 2), 2);
        due("undo() of install", x.undo(), 2);
        due("look(0, 2)", x.look(0, 2), 0);
        due("the draw as ahead of it", x.seed(77), 77);
        due("undo() of tell", x.undo(), 1);
        due("the draw as ahead of it, whatever was told since", x.seed(5), 1);
        due("prefix(1, 0)", x.prefix(1, 0), 1);
        due("undo() of the first", x.undo(), 0);
        due("prefix(1, 0)", x.prefix(1, 0), NONE);
        due("undo() of none", x.undo(), NONE);
        undoOfManySteps();
    }

    private static void undoOfManySteps() {
        LeastRoutes x = new LeastRoutes();
        for (int k = 0; k < 9; k++) {
            x.tell(256 + k, 1);
        }
        for (int k = 5; k >= 0; k--) {
            due("undo() of six", x.undo(), k);
        }
        due("three stay", x.count(0), 3);
        due("older ones are lost", x.undo(), NONE);
        LeastRoutes y = new LeastRoutes();
        y.drift(1);
        int draw = y.seed(0);
        y.seed(draw);
        y.drift(3);
        due("each turn is a step", y.count(7), 4);
        y.undo();
        y.undo();
        y.undo();
        due("the draw is that of the turn", y.seed(0), draw);
        due("count(0)", y.count(0), 1);
        LeastRoutes z = fullTable();
        z.out(256 + 28);
        z.tell(1, 1);
        z.undo();
        z.undo();
        due("two undone", z.count(7), 4);
        z.out(256 + 28);
        z.tell(1, 1);
        z.undo();
        due("five known", z.count(7), 5);
        z.tell(1, 1);
        due("six known", z.count(7), 6);
        z.undo();
        z.tell(2, 1);
        z.seed(1);
        z.drift(1);
        due("a turn that changes nothing is a step", z.undo(), 5);
        due("with its draw", z.seed(1), 1);
    }

    private static void seed() {
        promise = "18";
        LeastRoutes x = new LeastRoutes();
        due("seed(0)", x.seed(0), 1);
        due("seed(-1)", x.seed(-1), BAD);
        due("seed(min)", x.seed(Integer.MIN_VALUE), BAD);
        due("seed(max)", x.seed(Integer.MAX_VALUE), 0);
        due("seed(7)", x.seed(7), Integer.MAX_VALUE);
        due("it is no step", x.count(7), 0);
    }

    private static void imageAndRestore() {
        promise = "19, 20";
        LeastRoutes x = new LeastRoutes();
        due("restore() of none", x.restore(), NONE);
        x.tell(1, 1);
        x.install();
        x.tell(2, 2);
        x.seed(42);
        due("image()", x.image(), 1);
        x.out(1);
        x.out(2);
        x.install();
        x.drift(9);
        x.type('*');
        x.sheet(1, 2, 3);
        due("restore()", x.restore(), 1);
        due("count(0)", x.count(0), 2);
        due("prefix(1, 0)", x.prefix(1, 0), 1);
        due("look(0, 3)", x.look(0, 3), 2);
        due("look(0, 2)", x.look(0, 2), 1);
        due("count(7)", x.count(7), 3);
        due("the draw", x.seed(43), 42);
        due("the tape stays", x.type('*'), 2);
        due("sheets stay", x.drop(1), 3);
        due("undo()", x.undo(), 2);
        due("count(0) then", x.count(0), 1);
        due("undo()", x.undo(), 1);
        due("count(2) then", x.count(2), 0);
        due("restore() again", x.restore(), 1);
        due("count(0) again", x.count(0), 2);
        due("the draw again", x.seed(44), 42);
        x.tell(3, 3);
        due("image() anew", x.image(), 1);
        x.out(3);
        x.restore();
        due("the later image", x.prefix(3, 0), 3);
        due("four known", x.count(7), 4);
    }

    private static void fill(LeastRoutes x, int sheet, int lane, int... values) {
        for (int i = 0; i < values.length; i++) {
            due("item", x.item(sheet, lane, i, values[i]), 1);
        }
    }

    private static void lengths() {
        promise = "21";
        LeastRoutes x = new LeastRoutes();
        x.sheet(0, 2, 26);
        fill(x, 0, 2, 0, 1, 128, 2, 192, 1, 193, 1, 0, 1);
        due("one pair", x.lengths(0, 2, 0, 1), 511);
        due("two pairs", x.lengths(0, 2, 0, 2), 510);
        due("three pairs", x.lengths(0, 2, 0, 3), 508);
        due("five pairs, one twice", x.lengths(0, 2, 0, 5), 508);
        due("from item 4 on", x.lengths(0, 2, 4, 2), 511);
        fill(x, 0, 2, 254, 0, 255, 7);
        due("by all eight bits alone", x.lengths(0, 2, 0, 2), 256);
        fill(x, 0, 2, 255, 0, 255, 7);
        due("by none", x.lengths(0, 2, 0, 2), 0);
        due("twelve pairs", x.lengths(0, 2, 2, 12), 0);
        for (int[] wrongPair : new int[][] {{256, 0}, {-1, 0}, {0, 8}, {0, -1}}) {
            fill(x, 0, 2, 255, 7, wrongPair[0], wrongPair[1]);
            due("no such pair", x.lengths(0, 2, 0, 2), NOT);
            due("the pair ahead of it", x.lengths(0, 2, 0, 1), 511);
        }
        due("n 0", x.lengths(0, 2, 0, 0), BAD);
        due("n 13", x.lengths(0, 2, 0, 13), BAD);
        due("sheet -1", x.lengths(-1, 2, 0, 1), BAD);
        due("sheet 4", x.lengths(4, 2, 0, 1), BAD);
        due("lane -1", x.lengths(0, -1, 0, 1), BAD);
        due("lane 4", x.lengths(0, 4, 0, 1), BAD);
        due("NULL ahead of INDEX", x.lengths(1, 2, -1, 1), NULL);
        due("CAST ahead of INDEX", x.lengths(0, 3, -1, 1), CAST);
        due("INDEX ahead of NOT", x.lengths(0, 2, 3, 12), INDEX);
        due("i 24", x.lengths(0, 2, 24, 1), 511);
        due("i 25", x.lengths(0, 2, 25, 1), INDEX);
        due("i max", x.lengths(0, 2, Integer.MAX_VALUE, 12), INDEX);
        due("i min", x.lengths(0, 2, Integer.MIN_VALUE, 12), INDEX);
        lengthsByLanes();
    }

    private static void lengthsByLanes() {
        LeastRoutes x = new LeastRoutes();
        for (int lane = 0; lane < 4; lane++) {
            x.sheet(lane, lane, 2);
            x.item(lane, lane, 0, 128);
            due("128 in lane " + lane, x.lengths(lane, lane, 0, 1), lane == 0 ? NOT : 511);
            x.item(lane, lane, 0, 0x100000005L);
            due("33 bits in lane " + lane, x.lengths(lane, lane, 0, 1), lane == 3 ? NOT : 511);
            x.item(lane, lane, 0, 0x10005);
            due("17 bits in lane " + lane, x.lengths(lane, lane, 0, 1), lane >= 2 ? NOT : 511);
            x.item(lane, lane, 0, 0x8000);
            due("a short's sign in lane " + lane, x.lengths(lane, lane, 0, 1), lane == 0 ? 511 : NOT);
            x.item(lane, lane, 0, -1);
            due("-1 in lane " + lane, x.lengths(lane, lane, 0, 1), NOT);
        }
    }

    private static void film() {
        promise = "22";
        LeastRoutes x = withText("0*:1;10*:2;110*:4;111*:2");
        due("NOT ahead of NULL", x.film(0, 4, 0, 2, 0), NOT);
        due("NULL", x.film(0, 3, 0, 2, 0), NULL);
        x.sheet(0, 2, 7);
        due("CAST", x.film(0, 3, 0, 1, 9), CAST);
        due("INDEX", x.film(0, 3, 0, 2, 2), INDEX);
        due("INDEX below 0", x.film(0, 0, 0, 2, -1), INDEX);
        due("INDEX above", x.film(0, 0, 0, 2, 8), INDEX);
        due("at the end", x.film(0, 0, 0, 2, 7), 0);
        due("k at the end", x.film(3, 0, 0, 2, 0), 0);
        due("k above", x.film(4, 0, 0, 2, 0), NOT);
        due("k max", x.film(Integer.MAX_VALUE, 12, 0, 2, 0), NOT);
        due("k -1", x.film(-1, 1, 0, 2, 0), BAD);
        due("n -1", x.film(0, -1, 0, 2, 0), BAD);
        due("n 13", x.film(0, 13, 0, 2, 0), BAD);
        due("sheet 4", x.film(0, 1, 4, 2, 0), BAD);
        due("lane 4", x.film(0, 1, 0, 4, 0), BAD);
        due("all three", x.film(0, 3, 0, 2, 1), 6);
        // Items now: 0, 1 1, 3 2, 14 4: as pairs from item 1 on.
        due("as pairs", x.lengths(0, 2, 1, 3), 256 + 128);
        x.sheet(0, 2, 4);
        due("from the second on", x.film(1, 2, 0, 2, 0), 4);
        due("3 2, 14 4 as pairs", x.lengths(0, 2, 0, 2), 0b111100000);
        LeastRoutes y = withText("11111111:1;10000000:2");
        y.sheet(0, 0, 4);
        due("two of eight bits", y.film(0, 2, 0, 0, 0), 4);
        due("384 is below 0 as a byte", y.lengths(0, 0, 0, 1), NOT);
        LeastRoutes z = withText("00000101:3;00000111:4");
        z.sheet(3, 0, 4);
        due("two of eight bits", z.film(0, 2, 3, 0, 0), 4);
        due("261, 263 are 5, 7 as bytes", z.lengths(3, 0, 0, 2), 0b110000000);
        z.sheet(2, 1, 4);
        z.film(0, 2, 2, 1, 0);
        due("261 is no address as a short", z.lengths(2, 1, 0, 2), NOT);
        due("refused and done are no step", z.count(7), 1);
    }

    private static void sheet() {
        promise = "23";
        LeastRoutes x = new LeastRoutes();
        due("sheet(0, 0, 30)", x.sheet(0, 0, 30), 30);
        due("sheet(3, 3, 0)", x.sheet(3, 3, 0), 0);
        due("n 31", x.sheet(0, 0, 31), BAD);
        due("n -1", x.sheet(0, 0, -1), SIZE);
        due("n min", x.sheet(0, 0, Integer.MIN_VALUE), SIZE);
        due("sheet -1", x.sheet(-1, 0, -1), BAD);
        due("sheet 4", x.sheet(4, 0, 1), BAD);
        due("lane -1", x.sheet(0, -1, 1), BAD);
        due("lane 4", x.sheet(0, 4, -1), BAD);
        due("refused changes nothing", x.drop(0), 30);
        x.sheet(1, 2, 2);
        x.item(1, 2, 0, 999);
        due("999 is no address", x.lengths(1, 2, 0, 1), NOT);
        due("a new row", x.sheet(1, 2, 2), 2);
        due("its items are 0", x.lengths(1, 2, 0, 1), 511);
        due("of another lane", x.sheet(1, 3, 5), 5);
        due("its old lane", x.item(1, 2, 0, 0), CAST);
        due("its new lane", x.item(1, 3, 4, 0), 1);
    }

    private static void drop() {
        promise = "24";
        LeastRoutes x = new LeastRoutes();
        due("nothing", x.drop(2), NULL);
        x.sheet(2, 1, 13);
        due("of 13", x.drop(2), 13);
        due("nothing then", x.drop(2), NULL);
        due("nothing then", x.item(2, 1, 0, 0), NULL);
        x.sheet(2, 1, 0);
        due("of 0", x.drop(2), 0);
        due("sheet -1", x.drop(-1), BAD);
        due("sheet 4", x.drop(4), BAD);
    }

    private static void item() {
        promise = "25";
        LeastRoutes x = new LeastRoutes();
        x.sheet(0, 3, 2);
        due("item 0", x.item(0, 3, 0, Long.MAX_VALUE), 1);
        due("item 1", x.item(0, 3, 1, Long.MIN_VALUE), 1);
        due("item 2", x.item(0, 3, 2, 0), INDEX);
        due("item -1", x.item(0, 3, -1, 0), INDEX);
        due("item max", x.item(0, 3, Integer.MAX_VALUE, 0), INDEX);
        due("CAST ahead of INDEX", x.item(0, 2, 2, 0), CAST);
        due("NULL ahead of all but BAD", x.item(1, 2, 2, 0), NULL);
        due("sheet 4", x.item(4, 2, 2, 0), BAD);
        due("sheet -1", x.item(-1, 2, 2, 0), BAD);
        due("lane 4", x.item(1, 4, 2, 0), BAD);
        due("lane -1", x.item(1, -1, 2, 0), BAD);
        x.sheet(2, 1, 0);
        due("of no item", x.item(2, 1, 0, 0), INDEX);
    }

    private static void copy() {
        promise = "26";
        LeastRoutes x = new LeastRoutes();
        x.sheet(0, 1, 6);
        fill(x, 0, 1, 10, 1, 20, 2, 30, 3);
        due("NULL", x.copy(0, 0, 1, 0, 1), NULL);
        due("NULL", x.copy(1, 0, 0, 0, 1), NULL);
        due("NULL of both", x.copy(1, 0, 1, 0, -1), NULL);
        x.sheet(1, 2, 6);
        due("CAST ahead of INDEX", x.copy(0, 0, 1, 0, -1), CAST);
        x.sheet(1, 1, 4);
        due("n -1", x.copy(0, 0, 1, 0, -1), INDEX);
        due("i -1", x.copy(0, -1, 1, 0, 0), INDEX);
        due("j -1", x.copy(0, 0, 1, -1, 0), INDEX);
        due("i above", x.copy(0, 7, 1, 0, 0), INDEX);
        due("j above", x.copy(0, 0, 1, 5, 0), INDEX);
        due("at the ends", x.copy(0, 6, 1, 4, 0), 0);
        due("too many", x.copy(0, 0, 1, 0, 5), INDEX);
        due("too many", x.copy(1, 0, 0, 0, 5), INDEX);
        due("n max", x.copy(0, 1, 1, 1, Integer.MAX_VALUE), INDEX);
        due("i max", x.copy(0, Integer.MAX_VALUE, 1, 0, 1), INDEX);
        due("from -1", x.copy(-1, 0, 1, 0, 1), BAD);
        due("from 4", x.copy(4, 0, 1, 0, 1), BAD);
        due("to -1", x.copy(0, 0, -1, 0, 1), BAD);
        due("to 4", x.copy(3, 0, 4, 0, 1), BAD);
        due("refused changes nothing", x.lengths(1, 1, 0, 2), 511);
        due("copy", x.copy(0, 2, 1, 0, 4), 4);
        // 20 2 and 30 3: 00010100, 00011110 are unlike from bit 5 on.
        due("as pairs", x.lengths(1, 1, 0, 2), 0b111100000);
        due("onto itself, up", x.copy(0, 0, 0, 2, 4), 4);
        // 10 1, 10 1, 20 2: 00001010, 00010100.
        due("all taken ahead", x.lengths(0, 1, 0, 3), 0b111110000);
        due("the second is the first", x.lengths(0, 1, 0, 2), 511);
        fill(x, 0, 1, 10, 1, 20, 2, 30, 3);
        due("onto itself, down", x.copy(0, 2, 0, 0, 4), 4);
        due("all taken ahead", x.lengths(0, 1, 0, 3), 0b111100000);
    }

    public static void main(String[] args) {
        newObject();
        look();
        prefix();
        cost();
        least();
        count();
        change();
        proof();
        lost();
        tell();
        out();
        rename();
        install();
        type();
        read();
        drift();
        undo();
        seed();
        imageAndRestore();
        lengths();
        film();
        sheet();
        drop();
        item();
        copy();
        System.out.println(wrong == 0 ? "all promises by hand are kept" : wrong + " answers are not as due");
        if (wrong != 0) {
            System.exit(1);
        }
    }
}

import java.math.BigInteger;

/** The document's terms, sentence by sentence. */
public final class TermsTest {
    private static final int BAD = Sentences.BAD, NOT = Sentences.NOT, FULL = Sentences.FULL, NONE = Sentences.NONE;
    private static final int NULL = Sentences.NULL, CAST = Sentences.CAST, INDEX = Sentences.INDEX, SIZE = Sentences.SIZE;
    private static final int LOW = Integer.MIN_VALUE, HIGH = Integer.MAX_VALUE;

    private static void the(String words) {
        Sentences.the("Terms", words);
    }

    private static void due(String call, int got, int want) {
        Sentences.due(call, got, want);
    }

    /** Sheet 0: four bytes, no pair of them an address and a hop; 1: nothing; 2: two ints. A least table of one. */
    private static LeastRoutes withSheets() {
        LeastRoutes x = Sentences.withText("1*:1");
        Sentences.row(x, 0, 0, -1, 9, -1, 9);
        Sentences.row(x, 2, 2, 0, 0);
        return x;
    }

    private static void badFirst() {
        the("Answers below 0, of several BAD ahead of all others,");
        LeastRoutes x = withSheets();
        due("look: none decides, no such what", x.look(0, 4), BAD);
        due("prefix: not there, no such what", x.prefix(1, 7), BAD);
        due("least: no k-th, no such what", x.least(9, 2), BAD);
        due("change: no k-th, no such what", x.change(9, 4), BAD);
        due("proof: no k-th, no such what", x.proof(9, 3), BAD);
        due("rename: the same, no hop", x.rename(8, 8), BAD);
        due("rename: none has it, no other hop", x.rename(7, 8), BAD);
        due("out: not there, no prefix", x.out(512), BAD);
        due("lengths: nothing, no n", x.lengths(1, 0, -1, 13), BAD);
        due("lengths: another lane, no n", x.lengths(0, 1, -1, 0), BAD);
        due("lengths: no address, no n", x.lengths(0, 0, 0, 0), BAD);
        due("film: not so many, no lane", x.film(9, 9, 1, 4, -1), BAD);
        due("film: not so many, no sheet", x.film(9, 9, 4, 0, -1), BAD);
        due("film: not so many by a k below 0", x.film(-1, 12, 1, 0, -1), BAD);
        due("film: another lane, no n", x.film(0, -1, 0, 1, -1), BAD);
        due("sheet: n below 0, no lane", x.sheet(0, 4, -1), BAD);
        due("sheet: n below 0, no sheet", x.sheet(4, 0, -1), BAD);
        due("item: nothing, no lane", x.item(1, 4, -1, 0), BAD);
        due("item: behind the end, no lane", x.item(0, -1, 9, 0), BAD);
        due("copy: from nothing, to no sheet", x.copy(1, -1, 4, -1, -1), BAD);
        due("copy: from no sheet, to nothing", x.copy(-1, -1, 1, -1, -1), BAD);
        LeastRoutes full = Sentences.fullTable();
        due("tell: 40 are there, no hop", full.tell(1, 8), BAD);
        due("tell: 40 are there, no prefix", full.tell(512, 1), BAD);
        for (int k = 0; k < 100; k++) {
            full.type(' ');
        }
        due("type: 100 are there, no letter", full.type(127), BAD);
    }

    private static void firstNamed() {
        the("then the first that a call names:");
        LeastRoutes x = withSheets();
        due("tell: NOT ahead of FULL", Sentences.fullTable().tell(256, 1), NOT);
        due("rename: NOT ahead of NONE", x.rename(7, 7), NOT);
        due("film: NOT ahead of NULL", x.film(0, 2, 1, 0, -1), NOT);
        due("film: NOT ahead of CAST", x.film(0, 2, 0, 1, -1), NOT);
        due("film: NOT ahead of INDEX", x.film(0, 2, 0, 0, -1), NOT);
        due("lengths: INDEX ahead of NOT", x.lengths(0, 0, 0, 3), INDEX);
        due("lengths: CAST ahead of NOT", x.lengths(0, 1, 0, 1), CAST);
        due("lengths: NOT at last", x.lengths(0, 0, 0, 2), NOT);
    }

    private static void answers() {
        the("BAD -1 (a number is not as told, there is no such thing), NOT -2 (as told), FULL -3, NONE -4 (as told),"
            + " CAST -12 (of SHEETS another LANE); what the machine finds: NULL -11, INDEX -13, SIZE -14");
        int[] found = {LeastRoutes.BAD, LeastRoutes.NOT, LeastRoutes.FULL, LeastRoutes.NONE, LeastRoutes.CAST,
            LeastRoutes.NULL, LeastRoutes.INDEX, LeastRoutes.SIZE};
        int[] told = {-1, -2, -3, -4, -12, -11, -13, -14};
        for (int k = 0; k < told.length; k++) {
            due("constant " + k, found[k], told[k]);
        }
        LeastRoutes x = withSheets();
        due("BAD", x.count(8), -1);
        due("NOT", x.rename(1, 1), -2);
        due("FULL", Sentences.fullTable().tell(1, 1), -3);
        due("NONE", x.out(1), -4);
        due("CAST", x.item(0, 1, 0, 0), -12);
        due("NULL", x.drop(1), -11);
        due("INDEX", x.item(0, 0, 4, 0), -13);
        due("SIZE", x.sheet(0, 0, -1), -14);
    }

    private static void machineOrder() {
        the("(NULL, CAST, INDEX, SIZE in this order;");
        LeastRoutes x = withSheets();
        due("lengths: NULL ahead of INDEX", x.lengths(1, 0, -1, 1), NULL);
        due("lengths: CAST ahead of INDEX", x.lengths(0, 1, -1, 1), CAST);
        due("film: NULL ahead of INDEX", x.film(0, 1, 1, 0, -1), NULL);
        due("film: CAST ahead of INDEX", x.film(0, 1, 0, 1, 9), CAST);
        due("item: NULL ahead of INDEX", x.item(1, 3, -1, 0), NULL);
        due("item: CAST ahead of INDEX", x.item(0, 3, -1, 0), CAST);
        due("copy: NULL ahead of INDEX", x.copy(0, -1, 1, 0, -1), NULL);
        due("copy: NULL ahead of INDEX, the other way", x.copy(1, 9, 0, 9, -1), NULL);
        due("copy: CAST ahead of INDEX", x.copy(0, -1, 2, -1, -1), CAST);
        due("copy: INDEX at last", x.copy(0, -1, 0, 0, 1), INDEX);
        the("INDEX also where no item is taken, if i, j is below 0, or above how many there are).");
        due("film at 0", x.film(0, 0, 0, 0, 0), 0);
        due("film at the end", x.film(0, 0, 0, 0, 4), 0);
        for (int i : new int[] {-1, 5, LOW, HIGH}) {
            due("film of none at " + i, x.film(0, 0, 0, 0, i), INDEX);
            due("copy of none from " + i, x.copy(0, i, 0, 0, 0), INDEX);
            due("copy of none to " + i, x.copy(0, 0, 0, i, 0), INDEX);
        }
        due("copy of none at both ends", x.copy(0, 4, 0, 4, 0), 0);
        the("What is refused changes nothing, but as told.");
        due("RefusedTest has each call; refused here is no step", x.count(7), 1);
    }

    /** Of each address the first and the last bit decide by a prefix of one bit and one of eight. */
    private static void numbers() {
        the("ADDRESSES are 0 .. 255, of 8 bits, the highest one first.");
        LeastRoutes x = Sentences.withText("1*:1;00000001:2");
        due("0 is one", x.look(0, 0), 0);
        due("255 is one", x.look(255, 0), 1);
        due("-1 is none", x.look(-1, 0), BAD);
        due("256 is none", x.look(256, 0), BAD);
        due("128 is that of which the first bit alone is 1", x.look(128, 0), 1);
        due("127 begins with 0", x.look(127, 0), 0);
        due("1 is that of which the last bit alone is 1", x.look(1, 0), 2);
        the("A PREFIX is the first 0 .. 8 bits of some; its number is these bits with a 1 ahead of them:"
            + " 1 (no bit: all ADDRESSES have it), 2, 3 (one bit), .., 256 .. 511 (all eight).");
        String[] texts = {"*:5", "0*:5", "1*:5", "00*:5", "11*:5", "0000000*:5", "1111111*:5", "00000000:5", "11111111:5",
            "01011*:5"};
        int[] numbers = {1, 2, 3, 4, 7, 128, 255, 256, 511, 43};
        for (int k = 0; k < texts.length; k++) {
            LeastRoutes y = Sentences.withText(texts[k]);
            due("the number of " + texts[k], y.prefix(numbers[k], 0), 5);
        }
        due("0 is no number", x.prefix(0, 0), BAD);
        due("512 is no number", x.prefix(512, 0), BAD);
        beneath();
        the("HOPS are 0 .. 7.");
        due("0 is one", x.tell(2, 0), 8);
        due("7 is one", x.tell(2, 7), 0);
        due("8 is none", x.tell(2, 8), BAD);
        due("-1 is none", x.tell(2, -1), BAD);
    }

    private static void beneath() {
        the("A is BENEATH B, if all that have A have B, too.");
        for (int p : new int[] {1, 2, 3, 6, 43, 128, 255, 256, 511}) {
            LeastRoutes x = new LeastRoutes();
            x.tell(p, 5);
            int bits = Integer.toBinaryString(p).length() - 1;
            for (int a = 0; a < 256; a++) {
                due("address " + a + " beneath " + p, x.look(a, 1), 256 + a >> 8 - bits == p ? p : NONE);
            }
        }
    }

    private static void table() {
        the("THE TABLE: up to 40 PREFIXES (none at first), each with a HOP.");
        due("none at first", new LeastRoutes().count(0), 0);
        LeastRoutes x = Sentences.fullTable();
        due("forty", x.count(0), 40);
        due("not one more", x.tell(1, 1), FULL);
        due("the first's hop", x.prefix(256, 0), 1);
        due("the last's hop", x.prefix(295, 0), 5);
        the("The HOP of an ADDRESS: that of the longest PREFIX of THE TABLE that it has; 0, if it has none.");
        LeastRoutes nested = new LeastRoutes();
        due("0, if it has none", nested.look(0, 0), 0);
        for (int bits = 0; bits <= 8; bits++) {
            nested.tell(1 << bits, 1 + bits % 7);
            due("the longest, of " + bits + " bits", nested.look(0, 0), 1 + bits % 7);
        }
        for (int bits = 0; bits < 8; bits++) {
            due("as far as they are alike, " + bits + " bits", nested.look(128 >> bits, 0), 1 + bits % 7);
        }
        nested.tell(256, 0);
        due("hop 0 of the longest", nested.look(0, 0), 0);
        redundant();
    }

    private static void redundant() {
        the("REDUNDANT is a PREFIX of THE TABLE, if each ADDRESS had the HOP that it has, were that PREFIX out of it.");
        LeastRoutes x = Sentences.withText("*:0;1*:3;11*:3;110*:4;111*:5;1111*:5;00000000:0");
        int[][] told = {{1, 1}, {3, 0}, {7, 1}, {14, 0}, {15, 0}, {31, 1}, {256, 1}};
        for (int[] one : told) {
            due("prefix(" + one[0] + ", 6)", x.prefix(one[0], 6), one[1]);
        }
        due("in all", x.count(5), 4);
        x.out(15);
        due("if one that covered it is out, it decides, but as from above", x.prefix(7, 6), 1);
        due("and one beneath decides", x.prefix(31, 6), 0);
        x.tell(7, 6);
        due("another one than from above", x.prefix(7, 6), 0);
        for (int bits = 1; bits <= 8; bits++) {
            LeastRoutes y = Sentences.withText("*:3");
            y.tell((2 << bits) - 1, 3);
            due("as from prefix 1, of " + bits + " bits", y.prefix((2 << bits) - 1, 6), 1);
            y.tell((2 << bits) - 1, 0);
            due("hop 0, not as from prefix 1, of " + bits + " bits", y.prefix((2 << bits) - 1, 6), 0);
        }
        due("one of it left", Sentences.withText("1111111*:1;11111111:2").prefix(255, 6), 0);
        due("none of it left", Sentences.withText("1111111*:1;11111111:2;11111110:3").prefix(255, 6), 1);
    }

    private static void cost() {
        the("COST of a PREFIX p by a HOP h that comes from above: how few PREFIXES, each p or BENEATH it, with HOPS,"
            + " will do, so that each ADDRESS that has p has its HOP by the longest of these that it has, those that"
            + " have none of them by h being h.");
        int[][] rows = {{0, 0, 0, 0}, {1, 1, 1, 1}, {0, 1, 0, 1}, {1, 2, 0, 2}, {0, 0, 1, 2}, {1, 1, 2, 2}, {2, 0, 1, 1},
            {0, 1, 2, 0}, {1, 1, 1, 0}, {2, 2, 0, 2}, {0, 1, 1, 0}, {2, 1, 1, 1}};
        for (int[] sent : rows) {
            LeastRoutes x = new LeastRoutes();
            for (int a = 0; a < 4; a++) {
                x.tell(256 + 4 * 9 + a, sent[a]);
            }
            int least = 99;
            int set = 0;
            for (int h = 0; h < 4; h++) {
                int cost = fewest(sent, h);
                due("cost by all sets of prefixes", x.cost(64 + 9, h), cost);
                set = cost < least ? 1 << h : cost == least ? set | 1 << h : set;
                least = Math.min(cost, least);
            }
            due("its set by all sets", x.prefix(64 + 9, 3), set);
            due("its ease by all sets", x.prefix(64 + 9, 4), least);
        }
        set();
    }

    /** Tries all sets of the seven prefixes of one of six bits, with hops 0 .. 2, for its four addresses. */
    private static int fewest(int[] sent, int fromAbove) {
        int best = 99;
        for (int set = 0; set < 16384; set++) {
            int[] hopOf = new int[8];
            int used = 0;
            for (int q = 1; q < 8; q++) {
                hopOf[q] = (set >> 2 * (q - 1) & 3) - 1;
                used += hopOf[q] >= 0 ? 1 : 0;
            }
            boolean right = true;
            for (int a = 0; a < 4; a++) {
                int got = fromAbove;
                for (int q : new int[] {1, 2 + a / 2, 4 + a}) {
                    got = hopOf[q] >= 0 ? hopOf[q] : got;
                }
                right &= got == sent[a];
            }
            best = right ? Math.min(best, used) : best;
        }
        return best;
    }

    private static void set() {
        LeastRoutes x = Sentences.withText("00*:0;01*:7;10*:7;11*:3");
        the("SET of p: those HOPS h, by which COST is the least (bits);");
        int[] numbers = {256, 511, 4, 2, 3, 1};
        int[] sets = {1, 8, 1, 0b10000001, 0b10001000, 0b10000000};
        int[] eases = {0, 0, 0, 1, 1, 2};
        for (int k = 0; k < numbers.length; k++) {
            due("prefix(" + numbers[k] + ", 3)", x.prefix(numbers[k], 3), sets[k]);
        }
        the("EASE of p: that COST.");
        for (int k = 0; k < numbers.length; k++) {
            due("prefix(" + numbers[k] + ", 4)", x.prefix(numbers[k], 4), eases[k]);
            for (int hop = 0; hop < 8; hop++) {
                int more = sets[k] >> hop & 1 ^ 1;
                due("cost(" + numbers[k] + ", " + hop + ")", x.cost(numbers[k], hop), eases[k] + more);
            }
        }
    }

    private static void least() {
        the("THE LEAST table: to PREFIX 1 comes HOP 0 from above.");
        due("none, where all go by 0", Sentences.withText("*:0").count(1), 0);
        due("one, where all go by 1", Sentences.withText("*:1").least(0, 0), 1);
        LeastRoutes half = Sentences.withText("0*:5;1*:0");
        due("hop 0 is in the set of 1", half.least(0, 0), 2);
        due("and nothing else", half.count(1), 1);
        the("Where to a PREFIX one comes that is in its SET, it is not in THE LEAST table, and the same one comes to both"
            + " PREFIXES of one bit more;");
        LeastRoutes x = Sentences.withText("00*:3;01*:2;10*:2;11*:3");
        due("prefix 1 gets the least of 2, 3", x.prefix(1, 2), 2);
        due("2 is in the set of prefix 2", x.prefix(2, 2), NONE);
        due("2 came to prefix 4, too", x.prefix(4, 2), 3);
        due("2 came to prefix 5, too", x.prefix(5, 2), NONE);
        due("2 came to prefix 6, too", x.prefix(6, 2), NONE);
        due("2 came to prefix 7, too", x.prefix(7, 2), 3);
        the("else it's in THE LEAST table with the least HOP of its SET, and that comes to both."
            + " (So with all, down to eight bits.)");
        LeastRoutes y = Sentences.withText("0*:1;1000000*:6;1000001*:4;11111111:7");
        due("hop 0 is in its set", y.prefix(48, 2), NONE);
        due("the least hop of 4, 6", y.prefix(96, 2), 4);
        due("that comes to both, right for one", y.prefix(193, 2), NONE);
        due("and not for the other", y.prefix(192, 2), 6);
        due("of eight bits", y.prefix(511, 2), 7);
        due("its neighbour", y.prefix(510, 2), NONE);
        due("prefixes 2, 96, 192, 511", y.count(1), 4);
    }

    private static void installed() {
        the("INSTALLED is a table, too (none at first); its HOPS of ADDRESSES as those of THE TABLE.");
        LeastRoutes x = new LeastRoutes();
        due("none at first", x.count(2), 0);
        due("hop 0 of all", x.look(255, 2), 0);
        Sentences.typeAndRead(x, "1*:1;111*:2;11111111:0");
        x.install();
        Sentences.typeAndRead(x, "*:7");
        int[][] looks = {{127, 0}, {128, 1}, {223, 1}, {224, 2}, {254, 2}, {255, 0}};
        for (int[] one : looks) {
            due("look(" + one[0] + ", 2)", x.look(one[0], 2), one[1]);
        }
        the("CHANGES: PREFIXES that are in INSTALLED, in THE LEAST table, or in both, but not with the same HOP;"
            + " by their numbers.");
        Sentences.typeAndRead(x, "1*:1;111*:3;00000000:4");
        int[] changes = {15, 256, 511};
        for (int k = 0; k < 3; k++) {
            due("change(" + k + ", 0)", x.change(k, 0), changes[k]);
        }
        due("3 is in both with the same hop", x.count(3), 3);
        proof();
    }

    private static void proof() {
        the("PROOF: PREFIXES of which all ADDRESSES have one HOP by THE TABLE, and one by INSTALLED (perhaps another one),"
            + " and which are BENEATH no other such PREFIX; by their least ADDRESSES.");
        LeastRoutes x = Sentences.withText("00*:1;01*:1;1*:2");
        x.install();
        Sentences.typeAndRead(x, "*:1;0001*:1;00000000:6;11*:2");
        // By the table 0 goes by 6, 192 .. 255 by 2, all else by 1; by INSTALLED 0 .. 127 by 1, 128 .. 255 by 2.
        int[] numbers = {256, 257, 129, 65, 33, 17, 9, 5, 6, 7};
        int[] hops = {6, 1, 1, 1, 1, 1, 1, 1, 1, 2};
        for (int k = 0; k < numbers.length; k++) {
            due("proof(" + k + ", 0)", x.proof(k, 0), numbers[k]);
            due("proof(" + k + ", 1)", x.proof(k, 1), hops[k]);
            due("proof(" + k + ", 2)", x.proof(k, 2), k < 8 ? 1 : 2);
        }
        due("no more", x.count(4), 10);
        due("one for all, though by unlike hops", Sentences.withText("*:3").proof(0, 0), 1);
        due("and no other", Sentences.withText("*:3").count(4), 1);
        LeastRoutes most = new LeastRoutes();
        for (int k = 0; k < 20; k++) {
            most.tell(256 + 12 * k, 1);
        }
        int sum = 0;
        int parts = most.count(4);
        for (int k = 0; k < parts; k++) {
            int p = most.proof(k, 0);
            due("by least addresses, none left out", (p << Integer.numberOfLeadingZeros(p) - 23) - 256, sum);
            sum += 1 << Integer.numberOfLeadingZeros(p) - 23;
        }
        due("all addresses", sum, 256);
    }

    private static void lost() {
        the("LOST by c of 10 (0 .. 10): each PREFIX of THE TABLE is lost by c of 10, apart: how likely an ADDRESS has the"
            + " HOP that it has:");
        LeastRoutes x = Sentences.withText("*:1;1*:2;11*:1;0*:0");
        int[][] odds = {{255, 0, 1, 1}, {255, 10, 0, 1}, {0, 10, 1, 1}, {0, 0, 1, 1}, {128, 1, 9, 10}, {255, 1, 909, 1000},
            {255, 9, 181, 1000}, {0, 1, 91, 100}};
        for (int[] o : odds) {
            due("lost(" + o[0] + ", " + o[1] + ", 0)", x.lost(o[0], o[1], 0), o[2]);
            due("lost(" + o[0] + ", " + o[1] + ", 1)", x.lost(o[0], o[1], 1), o[3]);
        }
        due("c -1", x.lost(0, -1, 0), BAD);
        due("c 11", x.lost(0, 11, 0), BAD);
        LeastRoutes none = new LeastRoutes();
        for (int c = 0; c <= 10; c++) {
            due("nothing to lose, above", none.lost(9, c, 0), 1);
            due("nothing to lose, below", none.lost(9, c, 1), 1);
        }
        the("a fraction in lowest terms.");
        LeastRoutes nine = Sentences.withText(
            "*:1;0*:2;00*:3;000*:4;0000*:5;00000*:6;000000*:7;0000000*:1;00000000:0");
        int[][] fractions = {{9, 487420489, 1000000000}, {5, 257, 512}, {0, 1, 1}, {10, 1, 1}, {1, 900000001, 1000000000}};
        for (int[] f : fractions) {
            due("nine prefixes by " + f[0] + ", above", nine.lost(0, f[0], 0), f[1]);
            due("nine prefixes by " + f[0] + ", below", nine.lost(0, f[0], 1), f[2]);
        }
        due("0 is 0 of 1", x.lost(128, 10, 0), 0);
        due("0 is 0 of 1", x.lost(128, 10, 1), 1);
    }

    private static void lengths() {
        the("LENGTHS (a set, bits 0 .. 8) of a row that tells n pairs (1 .. 12) of an ADDRESS, a HOP: those l for which no"
            + " two of these ADDRESSES, of which the first l bits are the same, have unlike HOPS.");
        for (int bit = 0; bit < 8; bit++) {
            LeastRoutes x = new LeastRoutes();
            Sentences.row(x, 0, 1, 255, 0, 255 ^ 128 >> bit, 7);
            due("unlike from bit " + bit + " on", x.lengths(0, 1, 0, 2), 511 & ~((2 << bit) - 1));
            Sentences.row(x, 0, 1, 255, 7, 255 ^ 128 >> bit, 7);
            due("like hops", x.lengths(0, 1, 0, 2), 511);
        }
        LeastRoutes x = new LeastRoutes();
        Sentences.row(x, 0, 1, 9, 0, 9, 1, 200, 2);
        due("the same address, unlike hops", x.lengths(0, 1, 0, 2), 0);
        due("with another one", x.lengths(0, 1, 0, 3), 0);
        due("the other two", x.lengths(0, 1, 2, 2), 510);
        Sentences.row(x, 0, 1, 9, 1, 10, 1, 11, 1, 12, 1, 13, 1, 14, 1, 15, 1, 16, 1, 17, 1, 18, 1, 19, 1, 255, 2);
        due("twelve, the first and the last unlike", x.lengths(0, 1, 0, 12), 510);
        due("eleven alike", x.lengths(0, 1, 0, 11), 511);
        due("one", x.lengths(0, 1, 22, 1), 511);
        due("n 0", x.lengths(0, 1, 0, 0), BAD);
        due("n 13", x.lengths(0, 1, 0, 13), BAD);
        int between = x.lengths(0, 1, 0, 12);
        x.item(0, 1, 15, 3);
        // 16 3 is apart from 8 .. 15 from bit 4 on, from 17 at bit 8 alone.
        due("not all longer ones are in the set, if a shorter one is", x.lengths(0, 1, 0, 12), between & 256);
    }

    private static void faultIsDue(String text, int place) {
        due("read of '" + text + "'", Sentences.typeAndRead(new LeastRoutes(), text), -20 - place);
    }

    private static void textIsDue(String text, int prefixes) {
        due("read of '" + text + "'", Sentences.typeAndRead(new LeastRoutes(), text), prefixes);
    }

    private static void texts() {
        the("A TEXT is all of THE TABLE:");
        LeastRoutes x = Sentences.fullTable();
        due("a text of one", Sentences.typeAndRead(x, "111*:3"), 1);
        due("one is there", x.count(0), 1);
        due("no other", x.prefix(256, 0), NONE);
        the("ENTRIES with ; between, one at least:");
        textIsDue("*:1", 1);
        textIsDue("*:1;0*:1", 2);
        faultIsDue("", 0);
        faultIsDue(";", 0);
        faultIsDue(";*:1", 0);
        faultIsDue("*:1;", 4);
        faultIsDue("*:1;;0*:1", 4);
        faultIsDue("*:1 0*:1", 4);
        faultIsDue("*:1,0*:1", 3);
        the("up to 8 figures 0 1,");
        textIsDue("*:7;0*:7;01*:7;010*:7;0101*:7;01010*:7;010101*:7;0101010*:7;01010101:7", 9);
        faultIsDue("2*:1", 0);
        faultIsDue("0120*:1", 2);
        faultIsDue("/*:1", 0);
        the("then * , if they are less than 8,");
        faultIsDue("0101010:1", 7);
        faultIsDue(":1", 0);
        faultIsDue("01010101*:1", 8);
        faultIsDue("0**:1", 2);
        faultIsDue("*0:1", 1);
        the("then : , then a figure 0 .. 7 (the HOP).");
        LeastRoutes y = Sentences.withText("*:0;0*:7");
        due("hop 0", y.prefix(1, 0), 0);
        due("hop 7", y.prefix(2, 0), 7);
        faultIsDue("*1", 1);
        faultIsDue("*;1", 1);
        faultIsDue("*:8", 2);
        faultIsDue("*:/", 2);
        faultIsDue("*::", 2);
        faultIsDue("*:12", 3);
        faultIsDue("*:1:", 3);
        faults();
    }

    private static void faults() {
        the("A FAULT is the first letter (behind blanks) that can't stand there");
        faultIsDue("   x", 3);
        faultIsDue(" *  :  9", 7);
        faultIsDue("x y", 0);
        faultIsDue("*:1;0*:1;1x:x", 10);
        the("(a 9th figure, too;");
        faultIsDue("000000000:1", 8);
        faultIsDue("0000 0000 1", 10);
        the("the end: how many letters there are),");
        faultIsDue("0", 1);
        faultIsDue("01010101", 8);
        faultIsDue("*", 1);
        faultIsDue("*:", 2);
        faultIsDue("*:  ", 4);
        faultIsDue("*:1; ", 5);
        faultIsDue("   ", 3);
        faultIsDue(" ".repeat(100), 100);
        the("or the first letter of an ENTRY (its * , if it has no figure) of which the PREFIX was told ahead of it,"
            + " if its : stands where it is due.");
        faultIsDue("0*:1;0*:2", 5);
        faultIsDue("0*:1;0*:1", 5);
        faultIsDue("*:1;*:1", 4);
        faultIsDue("*:1;  *:1", 6);
        faultIsDue("0*:1;1*:2; 0 * : 3", 11);
        faultIsDue("01010101:1;*:1;01010101:1", 15);
        faultIsDue("0*:1;0*:", 5);
        faultIsDue("0*:1;0*:9", 5);
        faultIsDue("0*:1;0*", 7);
        faultIsDue("0*:1;0*;", 7);
        faultIsDue("0*:1;0:1", 6);
        faultIsDue("00000000:1;00000000*:1", 19);
        textIsDue("0*:1;00*:1;000*:1", 3);
        textIsDue("*:1;0*:1;1*:1", 3);
        the("Blanks count for nothing.");
        textIsDue("  0 1 * : 3 ; * : 4  ", 2);
        textIsDue("0 1 0 1 0 1 0 1 : 3", 1);
        LeastRoutes x = Sentences.withText(" 1 0 1 * : 3 ");
        due("the prefix without blanks", x.prefix(13, 0), 3);
    }

    /** What an undo brings back, as one row of answers. */
    private static String state(LeastRoutes x) {
        StringBuilder all = new StringBuilder();
        for (int p = 1; p < 16; p++) {
            all.append(x.prefix(p, 0)).append(' ').append(x.prefix(p, 1)).append(' ');
        }
        int draw = x.seed(0);
        x.seed(draw);
        return all.append(x.count(0)).append(' ').append(x.count(1)).append(' ').append(x.count(2)).append(' ')
            .append(x.count(3)).append(' ').append(x.count(6)).append(' ').append(draw).toString();
    }

    private static int doStep(LeastRoutes x, int kind) {
        switch (kind) {
            case 0: return x.tell(5, 3);
            case 1: return x.tell(2, 3);
            case 2: return x.out(2);
            case 3: return x.rename(1, 6);
            case 4: return x.install();
            case 5: return Sentences.typeAndRead(x, "0*:5;11*:5");
            case 6: return Sentences.typeAndRead(x, "*:7;0*:1;11*:2");
            default: return x.drift(1);
        }
    }

    private static void undone() {
        the("UNDONE: the latest of a PREFIX told, out, of a HOP RENAMED, of THE LEAST table INSTALLED, of a TEXT, a turn of"
            + " a DRIFT, is as it had not been");
        for (int kind = 0; kind < 8; kind++) {
            LeastRoutes x = Sentences.withText("*:7;0*:1;11*:2");
            x.seed(99);
            String ahead = state(x);
            due("step " + kind, doStep(x, kind) < 0 ? 1 : 0, 0);
            due("it is known", x.count(7), 2);
            due("undo of step " + kind, x.undo(), 1);
            due("as ahead of step " + kind, state(x).equals(ahead) ? 1 : 0, 1);
        }
        the("(6 are known, older ones lost):");
        LeastRoutes x = new LeastRoutes();
        for (int k = 0; k < 20; k++) {
            x.tell(256 + k, 1);
            due("known", x.count(7), Math.min(k + 1, 6));
        }
        for (int k = 5; k >= 0; k--) {
            due("undo()", x.undo(), k);
        }
        due("no more", x.undo(), NONE);
        due("fourteen stay", x.count(0), 14);
        x.drift(40);
        due("of forty turns six", x.count(7), 6);
        drawUndone();
    }

    private static void drawUndone() {
        the("THE TABLE, INSTALLED, THE DRAW are as ahead of it, whatever was told since.");
        LeastRoutes x = new LeastRoutes();
        String[] ahead = new String[6];
        int[] kinds = {0, 4, 7, 5, 2, 7};
        for (int k = 0; k < 6; k++) {
            x.seed(1000 + k);
            ahead[k] = state(x);
            due("step " + k, doStep(x, kinds[k]) < 0 ? 1 : 0, 0);
            x.seed(5);
        }
        for (int k = 5; k >= 0; k--) {
            due("undo()", x.undo(), k);
            due("as ahead of step " + k, state(x).equals(ahead[k]) ? 1 : 0, 1);
            x.seed(6);
        }
        due("the draw told behind the last undo", x.seed(0), 6);
    }

    /** The draw ahead of which the next one has x in its highest 15 bits. */
    private static int drawAhead(int x) {
        BigInteger all = BigInteger.ONE.shiftLeft(31);
        BigInteger next = BigInteger.valueOf(65536L * x + 4321 - 12345);
        return next.multiply(BigInteger.valueOf(1103515245).modInverse(all)).mod(all).intValueExact();
    }

    private static String bitsOfTurn(int x) {
        String bits = "0".repeat(15) + Integer.toBinaryString(x / 16);
        return bits.substring(bits.length() - x % 9);
    }

    private static int numberOfTurn(int x) {
        return Integer.parseInt("1" + bitsOfTurn(x), 2);
    }

    private static void drift() {
        the("DRIFT by a seed: THE DRAW is a number of 31 bits (1 at first);");
        LeastRoutes first = new LeastRoutes();
        due("1 at first", first.seed(0), 1);
        due("0 is one", first.seed(HIGH), 0);
        due("the greatest is one", first.seed(1), HIGH);
        the("for each turn it becomes the lowest 31 bits of itself times 1103515245 and 12345 more:");
        for (int draw : new int[] {0, 1, 2, 3, 65535, 65536, 1 << 30, HIGH, HIGH - 1, 123456789}) {
            LeastRoutes x = new LeastRoutes();
            x.seed(draw);
            long next = draw;
            for (int turn = 0; turn < 3; turn++) {
                x.drift(1);
                next = BigInteger.valueOf(next).multiply(BigInteger.valueOf(1103515245)).add(BigInteger.valueOf(12345))
                    .mod(BigInteger.ONE.shiftLeft(31)).longValueExact();
                due("the draw from " + draw, x.seed((int) next), (int) next);
            }
        }
        turns();
        turnOfFull();
    }

    private static void turns() {
        the("x is it by 65536 (cut): the PREFIX of length l, x left over by 9, of which the bits are the lowest l bits of"
            + " x by 16 (cut):");
        int[] xs = new int[300];
        for (int k = 0; k < xs.length; k++) {
            xs[k] = k < 9 ? k : k < 18 ? 32767 - (k - 9) : k < 30 ? 4096 * (k - 17) % 32768 - k % 2 : 109 * k + k % 16;
            xs[k] = Math.max(0, xs[k]);
        }
        for (int x : xs) {
            LeastRoutes y = new LeastRoutes();
            y.seed(drawAhead(x));
            due("x " + x, y.drift(1), 1);
            due("its prefix", y.prefix(numberOfTurn(x), 0) == NONE ? 1 : 0, 0);
        }
        the("with the HOP x by 4096 (cut) it is out, if THE TABLE has it so;");
        for (int x : xs) {
            LeastRoutes y = new LeastRoutes();
            y.tell(numberOfTurn(x), x / 4096);
            y.tell(numberOfTurn(x) ^ 1, x / 4096);
            y.seed(drawAhead(x));
            due("x " + x + " has it so: out", y.drift(1), numberOfTurn(x) == 1 ? 0 : 1);
            due("it is out", y.prefix(numberOfTurn(x), 0), NONE);
        }
        the("else it gets that;");
        for (int x : xs) {
            LeastRoutes y = new LeastRoutes();
            y.seed(drawAhead(x));
            due("x " + x + ", a new one", y.drift(1), 1);
            due("its hop", y.prefix(numberOfTurn(x), 0), x / 4096);
            y.tell(numberOfTurn(x), x / 4096 ^ 1);
            y.seed(drawAhead(x));
            due("x " + x + ", another hop", y.drift(1), 1);
            due("its hop", y.prefix(numberOfTurn(x), 0), x / 4096);
        }
    }

    private static void turnOfFull() {
        the("nothing, if it is a new one, and 40 are there.");
        // x 16838: prefix 284, hop 4; the full table has 256 .. 295.
        LeastRoutes x = Sentences.fullTable();
        due("another hop of one that is there", x.drift(1), 40);
        due("it gets that", x.prefix(284, 0), 4);
        x.seed(1);
        due("one that is there so: out", x.drift(1), 39);
        due("it is out", x.prefix(284, 0), NONE);
        x.seed(1);
        due("a new one, 39 are there", x.drift(1), 40);
        x.out(284);
        x.tell(1, 3);
        x.seed(1);
        due("a new one, 40 are there", x.drift(1), 40);
        due("nothing", x.prefix(284, 0), NONE);
        due("the draw goes on all the same", x.seed(1), 1103527590);
    }

    private static void sheets() {
        the("sheets 0 .. 3: nothing (at first), or a row of a LANE: 0 bytes, 1 shorts, 2 ints, 3 longs (all with a sign),"
            + " of 0 to 30 items.");
        LeastRoutes x = new LeastRoutes();
        for (int s = 0; s < 4; s++) {
            due("nothing at first", x.drop(s), NULL);
            due("the shortest row", x.sheet(s, 0, 0), 0);
            due("it is a row", x.drop(s), 0);
            due("the longest row", x.sheet(s, 3, 30), 30);
        }
        due("sheet 4 is none", x.drop(4), BAD);
        due("sheet -1 is none", x.drop(-1), BAD);
        due("31 items", x.sheet(0, 0, 31), BAD);
        long[] signs = {0x80L, 0x8000L, 0x80000000L, 0x8000000000000000L};
        for (int lane = 0; lane < 4; lane++) {
            Sentences.row(x, 0, lane, signs[lane], 0);
            due("a sign in lane " + lane, x.lengths(0, lane, 0, 1), NOT);
            Sentences.row(x, 0, lane, signs[lane] << 1, 0);
            due("above its bits is nothing in lane " + lane, x.lengths(0, lane, 0, 1), 511);
        }
    }

    public static void main(String[] args) {
        badFirst();
        firstNamed();
        answers();
        machineOrder();
        numbers();
        table();
        cost();
        least();
        installed();
        lost();
        lengths();
        texts();
        undone();
        drift();
        sheets();
        Sentences.end("Terms");
    }
}

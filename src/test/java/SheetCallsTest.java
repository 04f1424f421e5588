/** Promises 21 to 26, sentence by sentence: sheets. */
public final class SheetCallsTest {
    private static final int BAD = Sentences.BAD, NOT = Sentences.NOT, NULL = Sentences.NULL, CAST = Sentences.CAST;
    private static final int INDEX = Sentences.INDEX, SIZE = Sentences.SIZE;
    private static final int ALL = 511;
    private static String section = "";

    private static void the(String words) {
        Sentences.the(section, words);
    }

    private static void due(String call, int got, int want) {
        Sentences.due(call, got, want);
    }

    private static void lengths() {
        section = "Promise 21: lengths";
        LeastRoutes x = new LeastRoutes();
        Sentences.row(x, 0, 2, 0, 1, 128, 2, 192, 1, 193, 1, 0, 1);
        the("LENGTHS by 2 n items of a SHEET taken as a row of a LANE,");
        due("one pair", x.lengths(0, 2, 0, 1), ALL);
        due("two pairs", x.lengths(0, 2, 0, 2), 510);
        due("three pairs", x.lengths(0, 2, 0, 3), 508);
        due("five pairs, one twice", x.lengths(0, 2, 0, 5), 508);
        lengthsByLanes();
        the("from item i on.");
        due("pairs 2, 3, 4", x.lengths(0, 2, 4, 3), ALL);
        due("the last pair", x.lengths(0, 2, 8, 1), ALL);
        due("hops taken as addresses", x.lengths(0, 2, 1, 1), NOT);
        due("from an odd item on: 1 2, 192 1", lengthsFromOddItem(), 510);
        lengthsBad(x);
        lengthsRefused(x);
    }

    private static int lengthsFromOddItem() {
        LeastRoutes x = new LeastRoutes();
        Sentences.row(x, 0, 1, 9, 1, 2, 192, 1);
        return x.lengths(0, 1, 1, 2);
    }

    private static void lengthsByLanes() {
        for (int lane = 0; lane < 4; lane++) {
            LeastRoutes x = new LeastRoutes();
            Sentences.row(x, lane, lane, 5, 7, 127, 0);
            due("two pairs in lane " + lane, x.lengths(lane, lane, 0, 2), 0b111111100);
        }
    }

    private static void lengthsBad(LeastRoutes x) {
        the("BAD;");
        for (int s : Sentences.outside(0, 3)) {
            due("sheet " + s, x.lengths(s, 2, 0, 1), BAD);
        }
        for (int lane : Sentences.outside(0, 3)) {
            due("lane " + lane, x.lengths(0, lane, 0, 1), BAD);
        }
        for (int n : Sentences.outside(1, 12)) {
            due("n " + n, x.lengths(0, 2, 0, n), BAD);
        }
    }

    private static void lengthsRefused(LeastRoutes x) {
        the("NULL;");
        due("nothing is held", x.lengths(1, 2, 0, 1), NULL);
        the("CAST;");
        for (int lane : new int[] {0, 1, 3}) {
            due("taken as lane " + lane, x.lengths(0, lane, 0, 1), CAST);
        }
        the("INDEX;");
        due("at the end", x.lengths(0, 2, 10, 1), INDEX);
        due("half a pair", x.lengths(0, 2, 9, 1), INDEX);
        due("too many pairs", x.lengths(0, 2, 0, 6), INDEX);
        due("below 0", x.lengths(0, 2, -1, 1), INDEX);
        due("far below 0", x.lengths(0, 2, Integer.MIN_VALUE, 12), INDEX);
        due("far above", x.lengths(0, 2, Integer.MAX_VALUE, 12), INDEX);
        x.sheet(2, 2, 0);
        due("of an empty row", x.lengths(2, 2, 0, 1), INDEX);
        the("NOT: an item is no such ADDRESS, HOP.");
        long[][] pairs = {{256, 0}, {-1, 0}, {0, 8}, {0, -1}, {1L << 32, 0}, {0, 1L << 32}, {Long.MIN_VALUE, 0},
            {0, Long.MAX_VALUE}};
        for (long[] pair : pairs) {
            Sentences.row(x, 1, 3, 255, 7, pair[0], pair[1], 0, 0);
            due("the second pair " + pair[0] + " " + pair[1], x.lengths(1, 3, 0, 2), NOT);
            due("of three", x.lengths(1, 3, 0, 3), NOT);
            due("the pair ahead of it alone", x.lengths(1, 3, 0, 1), ALL);
            due("the pair behind it alone", x.lengths(1, 3, 4, 1), ALL);
        }
    }

    private static LeastRoutes withLeastThree() {
        return Sentences.withText("0*:1;10*:2;110*:4;111*:2");
    }

    private static void film() {
        section = "Promise 22: film";
        LeastRoutes x = withLeastThree();
        x.sheet(0, 2, 7);
        the("PREFIXES of THE LEAST table by numbers, n (0 .. 12) from the k-th on (0 on),");
        due("none", x.film(0, 0, 0, 2, 0), 0);
        due("all three", x.film(0, 3, 0, 2, 0), 6);
        due("the second", x.film(1, 1, 0, 2, 0), 2);
        Sentences.rowIsDue(x, 0, 2, 3, 2, 3, 2, 14, 4, 0);
        due("the last", x.film(2, 1, 0, 2, 0), 2);
        due("none behind the last", x.film(3, 0, 0, 2, 0), 0);
        Sentences.rowIsDue(x, 0, 2, 14, 4, 3, 2, 14, 4, 0);
        filmTwelve();
        the("number and HOP each, come to a SHEET likewise,");
        x.sheet(0, 1, 8);
        due("from item 1 on", x.film(0, 3, 0, 1, 1), 6);
        Sentences.rowIsDue(x, 0, 1, 0, 1, 1, 3, 2, 14, 4, 0);
        due("the table stays", x.count(1), 3);
        due("it is no step", x.count(7), 1);
        filmLowestBits();
        the("2 n.");
        for (int n = 0; n <= 3; n++) {
            due("n " + n, x.film(0, n, 0, 1, 0), 2 * n);
        }
        filmBad(x);
        filmRefused(x);
    }

    private static void filmTwelve() {
        LeastRoutes x = new LeastRoutes();
        for (int k = 0; k < 13; k++) {
            x.tell(256 + 2 * k, 1);
        }
        x.sheet(0, 0, 30);
        due("thirteen are there", x.count(1), 13);
        due("twelve", x.film(1, 12, 0, 0, 6), 24);
        // 258, 260 .. 280 are 2, 4 .. 24 as bytes.
        Sentences.rowIsDue(x, 0, 0, 0, 0, 0, 0, 0, 0, 2, 1, 4, 1, 6, 1, 8, 1, 10, 1, 12, 1, 14, 1, 16, 1, 18, 1, 20, 1,
            22, 1, 24, 1);
    }

    private static void filmLowestBits() {
        the("their lowest bits:");
        LeastRoutes x = Sentences.withText("00000101:3;10000111:4");
        x.sheet(0, 0, 4);
        due("as bytes", x.film(0, 2, 0, 0, 0), 4);
        due("261 is 5", x.lengths(0, 0, 0, 1), ALL);
        due("391 is below 0", x.lengths(0, 0, 2, 1), NOT);
        x.sheet(1, 0, 2);
        x.film(0, 1, 1, 0, 0);
        Sentences.rowIsDue(x, 1, 0, 5, 3);
        for (int lane = 1; lane < 4; lane++) {
            x.sheet(2, lane, 4);
            due("in lane " + lane, x.film(0, 2, 2, lane, 0), 4);
            due("261 is no address", x.lengths(2, lane, 0, 1), NOT);
        }
    }

    private static void filmBad(LeastRoutes x) {
        the("BAD;");
        for (int k : Sentences.below(0)) {
            due("k " + k, x.film(k, 1, 0, 1, 0), BAD);
            due("k " + k + ", no item", x.film(k, 0, 0, 1, 0), BAD);
        }
        for (int n : Sentences.outside(0, 12)) {
            due("n " + n, x.film(0, n, 0, 1, 0), BAD);
        }
        for (int s : Sentences.outside(0, 3)) {
            due("sheet " + s, x.film(0, 1, s, 1, 0), BAD);
        }
        for (int lane : Sentences.outside(0, 3)) {
            due("lane " + lane, x.film(0, 1, 0, lane, 0), BAD);
        }
    }

    private static void filmRefused(LeastRoutes x) {
        the("NOT: not so many;");
        due("four of three", x.film(0, 4, 0, 1, 0), NOT);
        due("from the last on", x.film(2, 2, 0, 1, 0), NOT);
        due("behind the last", x.film(3, 1, 0, 1, 0), NOT);
        due("none of what is not there", x.film(4, 0, 0, 1, 0), NOT);
        due("far behind", x.film(Integer.MAX_VALUE, 12, 0, 1, 0), NOT);
        due("of an empty one", new LeastRoutes().film(0, 1, 0, 1, 0), NOT);
        the("NULL;");
        due("nothing is held", x.film(0, 1, 2, 1, 0), NULL);
        due("nothing is held, no item", x.film(0, 0, 2, 1, 0), NULL);
        the("CAST;");
        for (int lane : new int[] {0, 2, 3}) {
            due("taken as lane " + lane, x.film(0, 1, 0, lane, 0), CAST);
            due("no item taken as lane " + lane, x.film(0, 0, 0, lane, 0), CAST);
        }
        the("INDEX.");
        due("below 0", x.film(0, 1, 0, 1, -1), INDEX);
        due("half a pair", x.film(0, 1, 0, 1, 7), INDEX);
        due("the last pair", x.film(0, 1, 0, 1, 6), 2);
        due("at the end", x.film(0, 1, 0, 1, 8), INDEX);
        due("no item at the end", x.film(0, 0, 0, 1, 8), 0);
        due("no item behind the end", x.film(0, 0, 0, 1, 9), INDEX);
        due("no item below 0", x.film(0, 0, 0, 1, -1), INDEX);
        due("far above", x.film(0, 3, 0, 1, Integer.MAX_VALUE), INDEX);
        due("far below", x.film(0, 3, 0, 1, Integer.MIN_VALUE), INDEX);
    }

    private static void sheet() {
        section = "Promise 23: sheet";
        LeastRoutes x = new LeastRoutes();
        the("A SHEET holds a new row of a LANE: n.");
        for (int lane = 0; lane < 4; lane++) {
            due("the longest", x.sheet(lane, lane, 30), 30);
            due("its last item", x.item(lane, lane, 29, 1), 1);
            due("no more", x.item(lane, lane, 30, 1), INDEX);
            due("the shortest", x.sheet(lane, lane, 0), 0);
            due("no item", x.item(lane, lane, 0, 1), INDEX);
        }
        Sentences.row(x, 1, 2, 99, 99, 99);
        due("anew", x.sheet(1, 2, 3), 3);
        Sentences.rowIsDue(x, 1, 2, 0, 0, 0);
        Sentences.row(x, 1, 2, 99, 99, 99);
        due("of another lane", x.sheet(1, 1, 5), 5);
        due("not as the old lane", x.item(1, 2, 0, 0), CAST);
        Sentences.rowIsDue(x, 1, 1, 0, 0, 0, 0, 0);
        the("BAD: also n above 30;");
        for (int s : Sentences.outside(0, 3)) {
            due("sheet " + s, x.sheet(s, 0, 1), BAD);
        }
        for (int lane : Sentences.outside(0, 3)) {
            due("lane " + lane, x.sheet(0, lane, 1), BAD);
        }
        due("n 31", x.sheet(1, 1, 31), BAD);
        due("n max", x.sheet(1, 1, Integer.MAX_VALUE), BAD);
        due("the row stays", x.item(1, 1, 4, 0), 1);
        the("SIZE: n below 0.");
        due("n -1", x.sheet(1, 1, -1), SIZE);
        due("n min", x.sheet(1, 1, Integer.MIN_VALUE), SIZE);
        due("the row stays", x.drop(1), 5);
        due("where nothing is held", x.sheet(1, 1, -1), SIZE);
        due("nothing is held still", x.drop(1), NULL);
    }

    private static void drop() {
        section = "Promise 24: drop";
        LeastRoutes x = new LeastRoutes();
        x.sheet(2, 1, 13);
        x.sheet(1, 1, 30);
        x.sheet(0, 1, 0);
        the("A SHEET holds nothing: how many items it had.");
        due("of 13", x.drop(2), 13);
        due("it holds nothing", x.item(2, 1, 0, 0), NULL);
        due("of 30", x.drop(1), 30);
        due("of none", x.drop(0), 0);
        the("BAD;");
        for (int s : Sentences.outside(0, 3)) {
            due("sheet " + s, x.drop(s), BAD);
        }
        the("NULL.");
        for (int s = 0; s < 4; s++) {
            due("it holds nothing", x.drop(s), NULL);
        }
    }

    private static void item() {
        section = "Promise 25: item";
        LeastRoutes x = new LeastRoutes();
        Sentences.row(x, 0, 1, 10, 20, 30);
        the("Item i of a SHEET, taken as a row of a LANE, becomes v,");
        due("the first", x.item(0, 1, 0, 11), 1);
        due("the last", x.item(0, 1, 2, 33), 1);
        Sentences.rowIsDue(x, 0, 1, 11, 20, 33);
        itemLowestBits();
        the("BAD;");
        for (int s : Sentences.outside(0, 3)) {
            due("sheet " + s, x.item(s, 1, 0, 0), BAD);
        }
        for (int lane : Sentences.outside(0, 3)) {
            due("lane " + lane, x.item(0, lane, 0, 0), BAD);
        }
        the("NULL;");
        due("nothing is held", x.item(1, 1, 0, 0), NULL);
        the("CAST;");
        for (int lane : new int[] {0, 2, 3}) {
            due("taken as lane " + lane, x.item(0, lane, 0, 0), CAST);
        }
        the("INDEX.");
        due("below 0", x.item(0, 1, -1, 0), INDEX);
        due("at the end", x.item(0, 1, 3, 0), INDEX);
        due("far above", x.item(0, 1, Integer.MAX_VALUE, 0), INDEX);
        due("far below", x.item(0, 1, Integer.MIN_VALUE, 0), INDEX);
        x.sheet(2, 1, 0);
        due("of an empty row", x.item(2, 1, 0, 0), INDEX);
        Sentences.rowIsDue(x, 0, 1, 11, 20, 33);
    }

    /** A value behind which all of a lane's bits are told by one that wraps around to an address, or to one below 0. */
    private static void itemLowestBits() {
        the("its lowest bits: 1.");
        for (int lane = 0; lane < 4; lane++) {
            LeastRoutes x = new LeastRoutes();
            int bits = 8 << lane;
            long over = bits == 64 ? 0 : 1L << bits;
            due("a row", x.sheet(0, lane, 2), 2);
            due("one more than the lane holds, and 5", x.item(0, lane, 0, over + 5), 1);
            due("as many below 0, and 6", x.item(0, lane, 1, 6 - over), 1);
            Sentences.rowIsDue(x, 0, lane, 5, 6);
            due("the greatest below its sign", x.item(0, lane, 0, (1L << bits - 1) - 1), 1);
            due("an address in bytes alone", x.lengths(0, lane, 0, 1), lane == 0 ? ALL : NOT);
            due("its sign", x.item(0, lane, 0, 1L << bits - 1), 1);
            due("no address", x.lengths(0, lane, 0, 1), NOT);
            due("128", x.item(0, lane, 0, 128), 1);
            due("an address in all but bytes", x.lengths(0, lane, 0, 1), lane == 0 ? NOT : ALL);
            due("-1", x.item(0, lane, 0, -1), 1);
            due("no address", x.lengths(0, lane, 0, 1), NOT);
            due("the least long", x.item(0, lane, 0, Long.MIN_VALUE), 1);
            due("0 in all but longs", x.lengths(0, lane, 0, 1), lane == 3 ? NOT : ALL);
            due("half as many as a lane twice as wide holds", x.item(0, lane, 0, 1L << Math.min(2 * bits - 1, 63)), 1);
            due("0 in all but longs", x.lengths(0, lane, 0, 1), lane == 3 ? NOT : ALL);
        }
    }

    private static void copy() {
        section = "Promise 26: copy";
        LeastRoutes x = new LeastRoutes();
        Sentences.row(x, 0, 1, 10, 20, 30, 40, 50, 60);
        Sentences.row(x, 1, 1, 1, 2, 3, 4);
        the("n items of a SHEET from i on come to another one (or the same) from j on,");
        due("all of it", x.copy(0, 2, 1, 0, 4), 4);
        Sentences.rowIsDue(x, 1, 1, 30, 40, 50, 60);
        due("one", x.copy(0, 0, 1, 3, 1), 1);
        Sentences.rowIsDue(x, 1, 1, 30, 40, 50, 10);
        due("from the same", x.copy(1, 0, 1, 2, 2), 2);
        Sentences.rowIsDue(x, 1, 1, 30, 40, 30, 40);
        Sentences.rowIsDue(x, 0, 1, 10, 20, 30, 40, 50, 60);
        the("as if all were taken ahead:");
        due("upwards", x.copy(0, 0, 0, 1, 5), 5);
        Sentences.rowIsDue(x, 0, 1, 10, 10, 20, 30, 40, 50);
        due("downwards", x.copy(0, 2, 0, 0, 4), 4);
        Sentences.rowIsDue(x, 0, 1, 20, 30, 40, 50, 40, 50);
        due("onto itself", x.copy(0, 0, 0, 0, 6), 6);
        Sentences.rowIsDue(x, 0, 1, 20, 30, 40, 50, 40, 50);
        the("n.");
        for (int n = 0; n <= 4; n++) {
            due("n " + n, x.copy(0, 0, 1, 0, n), n);
        }
        copyRefused(x);
        copyLanes();
    }

    private static void copyRefused(LeastRoutes x) {
        the("BAD;");
        for (int s : Sentences.outside(0, 3)) {
            due("from " + s, x.copy(s, 0, 1, 0, 1), BAD);
            due("to " + s, x.copy(0, 0, s, 0, 1), BAD);
        }
        the("NULL (either);");
        due("to nothing", x.copy(0, 0, 2, 0, 1), NULL);
        due("from nothing", x.copy(2, 0, 0, 0, 1), NULL);
        due("both", x.copy(2, 0, 2, 0, 1), NULL);
        due("no item", x.copy(0, 0, 2, 0, 0), NULL);
        the("INDEX (n below 0, too).");
        int[][] wrong = {{0, 0, -1}, {0, 0, Integer.MIN_VALUE}, {-1, 0, 0}, {-1, 0, 1}, {0, -1, 0}, {0, -1, 1}, {7, 0, 0},
            {0, 5, 0}, {6, 0, 1}, {0, 4, 1}, {3, 0, 4}, {0, 1, 4}, {0, 0, 5}, {0, 0, 31}, {1, 1, Integer.MAX_VALUE},
            {Integer.MAX_VALUE, 0, 1}, {0, Integer.MAX_VALUE, 1}, {Integer.MIN_VALUE, 0, 1}, {0, Integer.MIN_VALUE, 1},
            {Integer.MAX_VALUE, 0, Integer.MAX_VALUE}, {1, 1, -1}, {Integer.MIN_VALUE, 0, Integer.MIN_VALUE}};
        for (int[] w : wrong) {
            due("copy(0, " + w[0] + ", 1, " + w[1] + ", " + w[2] + ")", x.copy(0, w[0], 1, w[1], w[2]), INDEX);
        }
        due("none at both ends", x.copy(0, 6, 1, 4, 0), 0);
        due("from fewer to more", x.copy(1, 0, 0, 0, 5), INDEX);
        Sentences.rowIsDue(x, 1, 1, 20, 30, 40, 50);
    }

    private static void copyLanes() {
        the("CAST: of unlike LANES;");
        for (int one = 0; one < 4; one++) {
            for (int other = 0; other < 4; other++) {
                LeastRoutes x = new LeastRoutes();
                Sentences.row(x, 0, one, 10, 20);
                Sentences.row(x, 1, other, 30, 40);
                due("of lanes " + one + ", " + other, x.copy(0, 0, 1, 0, 2), one == other ? 2 : CAST);
                due("no item", x.copy(0, 0, 1, 0, 0), one == other ? 0 : CAST);
                Sentences.rowIsDue(x, 1, other, one == other ? 10 : 30, one == other ? 20 : 40);
            }
        }
    }

    public static void main(String[] args) {
        lengths();
        film();
        sheet();
        drop();
        item();
        copy();
        Sentences.end("Promise 21: lengths", "Promise 22: film", "Promise 23: sheet", "Promise 24: drop",
            "Promise 25: item", "Promise 26: copy");
    }
}

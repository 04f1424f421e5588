import java.util.ArrayList;
import java.util.List;

/**
 * "What is refused changes nothing, but as told": of two objects made by the same calls one gets a call more, which is
 * refused (or only asks); then both are asked the same, and are to answer alike.
 */
public final class RefusedTest {
    private static final int BAD = Sentences.BAD, NOT = Sentences.NOT, FULL = Sentences.FULL, NONE = Sentences.NONE;
    private static final int NULL = Sentences.NULL, CAST = Sentences.CAST, INDEX = Sentences.INDEX, SIZE = Sentences.SIZE;
    private static final int LOW = Integer.MIN_VALUE, HIGH = Integer.MAX_VALUE;

    /** How an object is made. */
    private interface Maker {
        LeastRoutes make();
    }

    private interface Call {
        int on(LeastRoutes x);
    }

    /** A full table, another one installed, an image, a full tape, sheets of two lanes, an empty row, nothing. */
    private static LeastRoutes rich() {
        LeastRoutes x = Sentences.fullTable();
        x.install();
        x.image();
        x.tell(256, 5);
        x.seed(77);
        for (int k = 0; k < 100; k++) {
            x.type(k < 3 ? "*:6".charAt(k) : ' ');
        }
        Sentences.row(x, 0, 0, 5, 1, -1, 7);
        Sentences.row(x, 1, 2, 200, 3, 100, 8, 7, 7);
        x.sheet(2, 3, 0);
        return x;
    }

    private static LeastRoutes installedAsItIs() {
        LeastRoutes x = Sentences.withText("0*:1;11*:2");
        x.install();
        return x;
    }

    private static List<Integer> answers(LeastRoutes x) {
        List<Integer> all = new ArrayList<>();
        askTables(x, all);
        askSheets(x, all);
        all.add(x.type(' '));
        all.add(x.seed(5));
        all.add(x.read());
        all.add(x.prefix(1, 0));
        for (int k = 0; k < 7; k++) {
            all.add(x.undo());
            all.add(x.count(0));
            all.add(x.count(2));
            all.add(x.prefix(256, 0));
            all.add(x.seed(5));
        }
        all.add(x.restore());
        askTables(x, all);
        all.add(x.seed(5));
        for (int k = 0; k < 7; k++) {
            all.add(x.undo());
            all.add(x.count(0));
        }
        return all;
    }

    private static void askTables(LeastRoutes x, List<Integer> all) {
        for (int what = 0; what < 8; what++) {
            all.add(x.count(what));
        }
        for (int p : new int[] {1, 2, 7, 256, 257, 295, 511}) {
            all.add(x.prefix(p, 0));
            all.add(x.prefix(p, 1));
            all.add(x.prefix(p, 2));
        }
        for (int a : new int[] {0, 1, 39, 128, 255}) {
            all.add(x.look(a, 0));
            all.add(x.look(a, 2));
        }
    }

    private static void askSheets(LeastRoutes x, List<Integer> all) {
        for (int s = 0; s < 4; s++) {
            int lane = s == 0 ? 0 : s == 1 ? 2 : 3;
            all.add(x.copy(s, 0, s, 0, 0));
            for (int i = 0; i < 6; i++) {
                all.add(x.lengths(s, lane, i, 1));
            }
            all.add(x.lengths(s, lane, 0, 2));
            all.add(x.lengths(s, lane, 2, 2));
            all.add(x.drop(s));
        }
    }

    private static void alike(String name, Maker maker, Call call, int want) {
        LeastRoutes called = maker.make();
        LeastRoutes other = maker.make();
        Sentences.due(name, call.on(called), want);
        List<Integer> got = answers(called);
        List<Integer> due = answers(other);
        for (int k = 0; k < due.size(); k++) {
            Sentences.due("answer " + k + " behind " + name, got.get(k), due.get(k));
        }
    }

    private static void changesNothing(String name, int want, Call call) {
        alike(name, RefusedTest::rich, call, want);
    }

    private static void steps() {
        changesNothing("tell(0, 1)", BAD, x -> x.tell(0, 1));
        changesNothing("tell(512, 1)", BAD, x -> x.tell(512, 1));
        changesNothing("tell(256, 8)", BAD, x -> x.tell(256, 8));
        changesNothing("tell(256, -1)", BAD, x -> x.tell(256, -1));
        changesNothing("tell(256, 5)", NOT, x -> x.tell(256, 5));
        changesNothing("tell(511, 1)", FULL, x -> x.tell(511, 1));
        changesNothing("out(0)", BAD, x -> x.out(0));
        changesNothing("out(512)", BAD, x -> x.out(512));
        changesNothing("out(511)", NONE, x -> x.out(511));
        changesNothing("rename(8, 1)", BAD, x -> x.rename(8, 1));
        changesNothing("rename(1, 8)", BAD, x -> x.rename(1, 8));
        changesNothing("rename(1, -1)", BAD, x -> x.rename(1, -1));
        changesNothing("rename(2, 2)", NOT, x -> x.rename(2, 2));
        changesNothing("rename(0, 2)", NONE, x -> x.rename(0, 2));
        changesNothing("drift(0)", BAD, x -> x.drift(0));
        changesNothing("drift(41)", BAD, x -> x.drift(41));
        changesNothing("seed(-1)", BAD, x -> x.seed(-1));
        changesNothing("seed(LOW)", BAD, x -> x.seed(LOW));
        changesNothing("type(31)", BAD, x -> x.type(31));
        changesNothing("type(127)", BAD, x -> x.type(127));
        changesNothing("type('0')", FULL, x -> x.type('0'));
        alike("install()", RefusedTest::installedAsItIs, x -> x.install(), NOT);
        alike("install() of none", LeastRoutes::new, x -> x.install(), NOT);
        alike("undo() of none", LeastRoutes::new, x -> x.undo(), NONE);
        alike("restore() of none", RefusedTest::installedAsItIs, x -> x.restore(), NONE);
        alike("rename() of none", LeastRoutes::new, x -> x.rename(0, 1), NONE);
    }

    /** By a fault the tape becomes empty, as told, and nothing else is changed: so both have an empty one then. */
    private static void faults() {
        for (String text : new String[] {"", "x", "0*:1;0*:2", "*:1;1*:8", "000000001:1", "*:1;"}) {
            alike("read of '" + text + "'", RefusedTest::installedAsItIs,
                x -> Sentences.typeAndRead(x, text) <= -20 ? 1 : 0, 1);
        }
        LeastRoutes x = rich();
        x.read();
        Sentences.due("the tape is empty", x.type('x'), 1);
        Sentences.due("a fault", x.read(), -20);
        Sentences.due("the tape is empty, as told", x.type('x'), 1);
    }

    private static void sheets() {
        changesNothing("lengths, sheet 4", BAD, x -> x.lengths(4, 0, 0, 1));
        changesNothing("lengths, n 13", BAD, x -> x.lengths(0, 0, 0, 13));
        changesNothing("lengths of nothing", NULL, x -> x.lengths(3, 0, 0, 1));
        changesNothing("lengths of another lane", CAST, x -> x.lengths(0, 2, 0, 1));
        changesNothing("lengths behind the end", INDEX, x -> x.lengths(0, 0, 3, 1));
        changesNothing("lengths of no address", NOT, x -> x.lengths(0, 0, 0, 2));
        changesNothing("film, k -1", BAD, x -> x.film(-1, 1, 0, 0, 0));
        changesNothing("film, n 13", BAD, x -> x.film(0, 13, 0, 0, 0));
        changesNothing("film, not so many", NOT, x -> x.film(38, 3, 1, 2, 0));
        changesNothing("film of nothing", NULL, x -> x.film(0, 1, 3, 0, 0));
        changesNothing("film of another lane", CAST, x -> x.film(0, 1, 1, 0, 0));
        changesNothing("film, the second pair behind the end", INDEX, x -> x.film(0, 2, 0, 0, 1));
        changesNothing("film below 0", INDEX, x -> x.film(0, 2, 0, 0, -1));
        changesNothing("sheet, n 31", BAD, x -> x.sheet(0, 0, 31));
        changesNothing("sheet, lane 4", BAD, x -> x.sheet(0, 4, 3));
        changesNothing("sheet, n -1", SIZE, x -> x.sheet(0, 0, -1));
        changesNothing("drop(4)", BAD, x -> x.drop(4));
        changesNothing("drop(3)", NULL, x -> x.drop(3));
        changesNothing("item, sheet 4", BAD, x -> x.item(4, 0, 0, 9));
        changesNothing("item of nothing", NULL, x -> x.item(3, 0, 0, 9));
        changesNothing("item of another lane", CAST, x -> x.item(0, 1, 0, 9));
        changesNothing("item below 0", INDEX, x -> x.item(0, 0, -1, 9));
        changesNothing("item at the end", INDEX, x -> x.item(0, 0, 4, 9));
        changesNothing("copy, from 4", BAD, x -> x.copy(4, 0, 0, 0, 1));
        changesNothing("copy to nothing", NULL, x -> x.copy(0, 0, 3, 0, 1));
        changesNothing("copy to another lane", CAST, x -> x.copy(0, 0, 1, 0, 1));
        changesNothing("copy, too many", INDEX, x -> x.copy(0, 1, 0, 0, 4));
        changesNothing("copy, too many there", INDEX, x -> x.copy(0, 0, 0, 2, 3));
        changesNothing("copy, n -1", INDEX, x -> x.copy(0, 1, 0, 0, -1));
    }

    /** What only asks changes nothing either, refused or not. */
    private static void asks() {
        changesNothing("look(256, 0)", BAD, x -> x.look(256, 0));
        changesNothing("look(0, 3)", 5, x -> x.look(0, 3));
        changesNothing("prefix(512, 0)", BAD, x -> x.prefix(512, 0));
        changesNothing("prefix(511, 0)", NONE, x -> x.prefix(511, 0));
        changesNothing("prefix(256, 6)", 0, x -> x.prefix(256, 6));
        changesNothing("cost(0, 0)", BAD, x -> x.cost(0, 0));
        changesNothing("cost(511, 1)", 1, x -> x.cost(511, 1));
        changesNothing("least(-1, 0)", BAD, x -> x.least(-1, 0));
        changesNothing("least(HIGH, 0)", NONE, x -> x.least(HIGH, 0));
        changesNothing("count(8)", BAD, x -> x.count(8));
        changesNothing("count(7)", 6, x -> x.count(7));
        changesNothing("change(HIGH, 0)", NONE, x -> x.change(HIGH, 0));
        changesNothing("change(0, 4)", BAD, x -> x.change(0, 4));
        changesNothing("proof(HIGH, 0)", NONE, x -> x.proof(HIGH, 0));
        changesNothing("proof(0, 3)", BAD, x -> x.proof(0, 3));
        changesNothing("lost(256, 0, 0)", BAD, x -> x.lost(256, 0, 0));
        changesNothing("lost(0, 5, 1)", 2, x -> x.lost(0, 5, 1));
        changesNothing("lengths(0, 0, 0, 1)", 511, x -> x.lengths(0, 0, 0, 1));
    }

    public static void main(String[] args) {
        Sentences.the("Terms", "What is refused changes nothing, but as told.");
        steps();
        faults();
        sheets();
        asks();
        Sentences.end();
    }
}

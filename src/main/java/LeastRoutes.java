import java.util.Arrays;

/** A route table made least. The document ../shared/DOC.md says what each call promises. */
public final class LeastRoutes {
    public static final int BAD = -1, NOT = -2, FULL = -3, NONE = -4, NULL = -11, CAST = -12, INDEX = -13, SIZE = -14;

    private static final int BITS = 8;
    private static final int ADDRESSES = 256;
    private static final int NUMBERS = 512;
    private static final int HOPS = 8;
    private static final int MOST_PREFIXES = 40;
    private static final int MOST_KNOWN = 6;
    private static final int MOST_LETTERS = 100;
    private static final int MOST_TURNS = 40;
    private static final int MOST_PAIRS = 12;
    private static final int SHEETS = 4;
    private static final int LANES = 4;
    private static final int MOST_ITEMS = 30;
    private static final int TENTHS = 10;
    private static final int WAS_NOT_THERE = 8;
    private static final int FAULT_AT_START = -20;

    private final History history = new History();
    private final History kept = new History();
    private final View view = new View();
    private final Tape tape = new Tape();
    private final Sheet[] sheets = new Sheet[SHEETS];
    private boolean hasImage = false;
    private boolean viewIsOld = true;

    public LeastRoutes() {
        for (int s = 0; s < SHEETS; s++) {
            sheets[s] = new Sheet();
        }
    }

    // ---- 1 the table

    public int look(int address, int what) {
        if (!isAddress(address)) {
            return BAD;
        }
        switch (what) {
            case 0:
                return table().hopOfAddress(address);
            case 1:
                return table().deciderOf(address);
            case 2:
                return installed().hopOfAddress(address);
            case 3:
                return freshView().leastTable().hopOfAddress(address);
            default:
                return BAD;
        }
    }

    public int prefix(int p, int what) {
        if (!isPrefix(p)) {
            return BAD;
        }
        switch (what) {
            case 0:
                return table().hopAt(p);
            case 1:
                return installed().hopAt(p);
            case 2:
                return freshView().leastTable().hopAt(p);
            case 3:
                return freshView().bestHops(p);
            case 4:
                return freshView().easeOf(p);
            case 5:
                return freshView().hopsBeneath(p);
            case 6:
                return table().redundancyOf(p);
            default:
                return BAD;
        }
    }

    public int cost(int p, int hop) {
        if (!isPrefix(p) || !isHop(hop)) {
            return BAD;
        }
        return freshView().costBy(p, hop);
    }

    public int least(int k, int what) {
        if (k < 0 || what < 0 || what > 1) {
            return BAD;
        }
        Table leastTable = freshView().leastTable();
        int p = leastTable.numberOf(k);
        if (p == NONE) {
            return NONE;
        }
        return what == 0 ? p : leastTable.hopAt(p);
    }

    public int count(int what) {
        switch (what) {
            case 0:
                return table().howMany();
            case 1:
                return freshView().leastTable().howMany();
            case 2:
                return installed().howMany();
            case 3:
                return freshView().countChanges();
            case 4:
                return freshView().countProof();
            case 5:
                return table().countRedundant();
            case 6:
                return freshView().firstSentElsewhere();
            case 7:
                return history.howManyKnown();
            default:
                return BAD;
        }
    }

    // ---- 2 what is installed

    public int change(int k, int what) {
        if (k < 0 || what < 0 || what > 3) {
            return BAD;
        }
        View seen = freshView();
        int p = seen.changeNumber(k);
        if (p == NONE) {
            return NONE;
        }
        switch (what) {
            case 0:
                return p;
            case 1:
                return installed().hopAt(p);
            case 2:
                return seen.leastTable().hopAt(p);
            default:
                return seen.kindOfChange(p);
        }
    }

    public int proof(int k, int what) {
        if (k < 0 || what < 0 || what > 2) {
            return BAD;
        }
        View seen = freshView();
        int p = seen.proofNumber(k);
        if (p == NONE) {
            return NONE;
        }
        switch (what) {
            case 0:
                return p;
            case 1:
                return lowestHop(seen.hopsBeneath(p));
            default:
                return lowestHop(seen.installedHopsBeneath(p));
        }
    }

    public int lost(int address, int c, int what) {
        if (!isAddress(address) || c < 0 || c > TENTHS || what < 0 || what > 1) {
            return BAD;
        }
        int hop = table().hopOfAddress(address);
        long above = hop == 0 ? 1 : 0;
        long below = 1;
        // From the shortest on: each longer prefix either stays and decides, or is lost and leaves the odds so far.
        for (int length = 0; length <= BITS; length++) {
            int decides = table().hopAt((ADDRESSES + address) >> (BITS - length));
            if (decides != NONE) {
                above = c * above + (decides == hop ? (TENTHS - c) * below : 0);
                below = TENTHS * below;
            }
        }
        long divisor = greatestDivisor(above, below);
        if (divisor <= 0) {
            return BAD;
        }
        return (int) ((what == 0 ? above : below) / divisor);
    }

    // ---- 3 what is done

    public int tell(int p, int hop) {
        if (!isPrefix(p) || !isHop(hop)) {
            return BAD;
        }
        int had = table().hopAt(p);
        if (had == hop) {
            return NOT;
        }
        if (had == NONE && table().howMany() >= MOST_PREFIXES) {
            return FULL;
        }
        beginStep();
        table().put(p, hop);
        return had == NONE ? WAS_NOT_THERE : had;
    }

    public int out(int p) {
        if (!isPrefix(p)) {
            return BAD;
        }
        int had = table().hopAt(p);
        if (had == NONE) {
            return NONE;
        }
        beginStep();
        table().takeOut(p);
        return had;
    }

    public int rename(int hop, int other) {
        if (!isHop(hop) || !isHop(other)) {
            return BAD;
        }
        if (hop == other) {
            return NOT;
        }
        if (!table().hasHop(hop)) {
            return NONE;
        }
        beginStep();
        return table().replaceHop(hop, other);
    }

    public int install() {
        View seen = freshView();
        int changes = seen.countChanges();
        if (changes == 0) {
            return NOT;
        }
        beginStep();
        installed().takeFrom(seen.leastTable());
        return changes;
    }

    public int type(int letter) {
        if (letter < 32 || letter > 126) {
            return BAD;
        }
        return tape.addLetter(letter);
    }

    public int read() {
        int fault = tape.parse();
        tape.makeEmpty();
        if (fault != NONE) {
            return FAULT_AT_START - fault;
        }
        beginStep();
        table().takeFrom(tape.toldTable());
        return table().howMany();
    }

    public int drift(int n) {
        if (n < 1 || n > MOST_TURNS) {
            return BAD;
        }
        for (int turn = 0; turn < n; turn++) {
            beginStep();
            takeTurn();
        }
        return table().howMany();
    }

    public int undo() {
        if (history.howManyKnown() == 0) {
            return NONE;
        }
        viewIsOld = true;
        history.goBack();
        return history.howManyKnown();
    }

    public int seed(int v) {
        if (v < 0) {
            return BAD;
        }
        int was = history.present().drawNow();
        history.present().setDraw(v);
        return was;
    }

    public int image() {
        kept.takeAllFrom(history);
        hasImage = true;
        return 1;
    }

    public int restore() {
        if (!hasImage) {
            return NONE;
        }
        viewIsOld = true;
        history.takeAllFrom(kept);
        return 1;
    }

    // ---- sheets

    public int lengths(int sheet, int lane, int i, int n) {
        if (!isSheet(sheet) || !isLane(lane) || n < 1 || n > MOST_PAIRS) {
            return BAD;
        }
        int refused = sheets[sheet].refusal(lane, i, 2 * n);
        if (refused != 0) {
            return refused;
        }
        if (!sheets[sheet].holdsPairs(i, n)) {
            return NOT;
        }
        int set = 0;
        for (int length = 0; length <= BITS; length++) {
            if (sheets[sheet].isToldBy(length, i, n)) {
                set |= 1 << length;
            }
        }
        return set;
    }

    public int film(int k, int n, int sheet, int lane, int i) {
        if (k < 0 || n < 0 || n > MOST_PAIRS || !isSheet(sheet) || !isLane(lane)) {
            return BAD;
        }
        Table leastTable = freshView().leastTable();
        if (k > leastTable.howMany() - n) {
            return NOT;
        }
        int refused = sheets[sheet].refusal(lane, i, 2 * n);
        if (refused != 0) {
            return refused;
        }
        for (int t = 0; t < n; t++) {
            int p = leastTable.numberOf(k + t);
            sheets[sheet].setItem(i + 2 * t, p);
            sheets[sheet].setItem(i + 2 * t + 1, leastTable.hopAt(p));
        }
        return 2 * n;
    }

    public int sheet(int sheet, int lane, int n) {
        if (!isSheet(sheet) || !isLane(lane) || n > MOST_ITEMS) {
            return BAD;
        }
        if (n < 0) {
            return SIZE;
        }
        sheets[sheet].startRow(lane, n);
        return n;
    }

    public int drop(int sheet) {
        if (!isSheet(sheet)) {
            return BAD;
        }
        if (sheets[sheet].holdsNothing()) {
            return NULL;
        }
        return sheets[sheet].makeNothing();
    }

    public int item(int sheet, int lane, int i, long v) {
        if (!isSheet(sheet) || !isLane(lane)) {
            return BAD;
        }
        int refused = sheets[sheet].refusal(lane, i, 1);
        if (refused != 0) {
            return refused;
        }
        sheets[sheet].setItem(i, v);
        return 1;
    }

    public int copy(int from, int i, int to, int j, int n) {
        if (!isSheet(from) || !isSheet(to)) {
            return BAD;
        }
        Sheet source = sheets[from];
        Sheet target = sheets[to];
        if (source.holdsNothing() || target.holdsNothing()) {
            return NULL;
        }
        if (!target.hasLaneOf(source)) {
            return CAST;
        }
        if (!source.hasItems(i, n) || !target.hasItems(j, n)) {
            return INDEX;
        }
        target.takeItems(j, source, i, n);
        return n;
    }

    // ---- what is so of numbers

    private static boolean isAddress(int address) {
        return address >= 0 && address < ADDRESSES;
    }

    private static boolean isPrefix(int p) {
        return p >= 1 && p < NUMBERS;
    }

    private static boolean isHop(int hop) {
        return hop >= 0 && hop < HOPS;
    }

    private static boolean isSheet(int sheet) {
        return sheet >= 0 && sheet < SHEETS;
    }

    private static boolean isLane(int lane) {
        return lane >= 0 && lane < LANES;
    }

    private static int lowestHop(int hops) {
        return hops == 0 ? NONE : Integer.numberOfTrailingZeros(hops);
    }

    private static boolean isOneHop(int hops) {
        return Integer.bitCount(hops) == 1;
    }

    private static int bitsOf(int p) {
        return 31 - Integer.numberOfLeadingZeros(p);
    }

    private static int firstAddress(int p) {
        return (p << (BITS - bitsOf(p))) - ADDRESSES;
    }

    private static int howManyAddresses(int p) {
        return 1 << (BITS - bitsOf(p));
    }

    private static long greatestDivisor(long a, long b) {
        long greater = a;
        long less = b;
        // Numbers of 64 bits need fewer than 100 steps.
        for (int step = 0; step < 100 && less != 0; step++) {
            long rest = greater % less;
            greater = less;
            less = rest;
        }
        return greater;
    }

    // ---- the state

    private Table table() {
        return history.present().tableNow();
    }

    private Table installed() {
        return history.present().installedNow();
    }

    private View freshView() {
        if (viewIsOld) {
            view.make(table(), installed());
            viewIsOld = false;
        }
        return view;
    }

    /** Ahead of all that may be undone. */
    private void beginStep() {
        history.remember();
        viewIsOld = true;
    }

    private void takeTurn() {
        int x = history.present().nextDraw() >> 16;
        int length = x % (BITS + 1);
        int p = (1 << length) | ((x >> 4) & ((1 << length) - 1));
        int hop = x >> 12;
        int had = table().hopAt(p);
        if (had == hop) {
            table().takeOut(p);
        } else if (had != NONE || table().howMany() < MOST_PREFIXES) {
            table().put(p, hop);
        }
    }

    /**
     * Prefixes, each with a hop. Many tables are kept to undo, so each is small: sixteen prefixes share a long,
     * four bits each: 0 it is not there, else its hop and one more.
     */
    private static final class Table {
        private final long[] places = new long[NUMBERS / 16];
        private int size = 0;

        int howMany() {
            return size;
        }

        int hopAt(int p) {
            if (p < 1 || p >= NUMBERS) {
                return NONE;
            }
            int place = (int) (places[p >> 4] >>> 4 * (p & 15)) & 15;
            return place == 0 ? NONE : place - 1;
        }

        void put(int p, int hop) {
            if (isPrefix(p) && isHop(hop)) {
                size += hopAt(p) == NONE ? 1 : 0;
                setPlace(p, hop + 1);
            }
        }

        void takeOut(int p) {
            if (hopAt(p) != NONE) {
                size--;
                setPlace(p, 0);
            }
        }

        void makeEmpty() {
            Arrays.fill(places, 0L);
            size = 0;
        }

        void takeFrom(Table other) {
            System.arraycopy(other.places, 0, places, 0, places.length);
            size = other.size;
        }

        /** The longest prefix of the table that an address has. */
        int deciderOf(int address) {
            for (int cut = 0; cut <= BITS; cut++) {
                int p = (ADDRESSES + address) >> cut;
                if (hopAt(p) != NONE) {
                    return p;
                }
            }
            return NONE;
        }

        int hopOfAddress(int address) {
            int decider = deciderOf(address);
            return decider == NONE ? 0 : hopAt(decider);
        }

        /** The hop that all beneath a prefix would have, were it and all beneath it out. */
        int hopFromAbove(int p) {
            for (int cut = 1; cut <= BITS; cut++) {
                int hop = hopAt(p >> cut);
                if (hop != NONE) {
                    return hop;
                }
            }
            return 0;
        }

        /** The number of prefix k by numbers. */
        int numberOf(int k) {
            int ahead = 0;
            for (int p = 1; p < NUMBERS; p++) {
                if (hopAt(p) != NONE) {
                    if (ahead == k) {
                        return p;
                    }
                    ahead++;
                }
            }
            return NONE;
        }

        boolean hasHop(int hop) {
            for (int p = 1; p < NUMBERS; p++) {
                if (hopAt(p) == hop) {
                    return true;
                }
            }
            return false;
        }

        int replaceHop(int hop, int other) {
            int replaced = 0;
            for (int p = 1; p < NUMBERS; p++) {
                if (hopAt(p) == hop) {
                    put(p, other);
                    replaced++;
                }
            }
            return replaced;
        }

        /** 1 redundant, 0 not; NONE: it is not in the table. */
        int redundancyOf(int p) {
            int hop = hopAt(p);
            if (hop == NONE) {
                return NONE;
            }
            return hop == hopFromAbove(p) || !decidesAny(p) ? 1 : 0;
        }

        int countRedundant() {
            int found = 0;
            for (int p = 1; p < NUMBERS; p++) {
                if (redundancyOf(p) == 1) {
                    found++;
                }
            }
            return found;
        }

        private boolean decidesAny(int p) {
            int first = firstAddress(p);
            int end = first + howManyAddresses(p);
            for (int address = first; address < end; address++) {
                if (deciderOf(address) == p) {
                    return true;
                }
            }
            return false;
        }

        private void setPlace(int p, int place) {
            if (p >= 1 && p < NUMBERS) {
                int shift = 4 * (p & 15);
                places[p >> 4] = places[p >> 4] & ~(15L << shift) | (long) place << shift;
            }
        }
    }

    /** What an undo brings back. */
    private static final class Moment {
        private final Table told = new Table();
        private final Table inUse = new Table();
        private int draw = 1;

        Table tableNow() {
            return told;
        }

        Table installedNow() {
            return inUse;
        }

        int drawNow() {
            return draw;
        }

        void setDraw(int v) {
            draw = v;
        }

        int nextDraw() {
            draw = (draw * 1103515245 + 12345) & 0x7fffffff;
            return draw;
        }

        void takeFrom(Moment other) {
            told.takeFrom(other.told);
            inUse.takeFrom(other.inUse);
            draw = other.draw;
        }
    }

    /** The present moment, and the moments ahead of the latest steps, the oldest first. */
    private static final class History {
        private final Moment now = new Moment();
        private final Moment[] known = new Moment[MOST_KNOWN];
        private int size = 0;

        History() {
            for (int k = 0; k < MOST_KNOWN; k++) {
                known[k] = new Moment();
            }
        }

        Moment present() {
            return now;
        }

        int howManyKnown() {
            return size;
        }

        void remember() {
            if (size == MOST_KNOWN) {
                loseOldest();
            }
            known[size].takeFrom(now);
            size++;
        }

        void goBack() {
            if (size > 0) {
                size--;
                now.takeFrom(known[size]);
            }
        }

        void takeAllFrom(History other) {
            now.takeFrom(other.now);
            for (int k = 0; k < MOST_KNOWN; k++) {
                known[k].takeFrom(other.known[k]);
            }
            size = other.size;
        }

        private void loseOldest() {
            // The oldest moment's object goes to the end to be used again, so that no step makes a new one.
            Moment oldest = known[0];
            for (int k = 1; k < MOST_KNOWN; k++) {
                known[k - 1] = known[k];
            }
            known[MOST_KNOWN - 1] = oldest;
            size = MOST_KNOWN - 1;
        }
    }

    /** What follows from both tables, prefix by prefix; made again only when one of them may have changed. */
    private static final class View {
        private final int[] sent = new int[NUMBERS];
        private final int[] sentByInstalled = new int[NUMBERS];
        private final int[] best = new int[NUMBERS];
        private final int[] ease = new int[NUMBERS];
        private final int[] fromAbove = new int[NUMBERS];
        private final Table inUse = new Table();
        private final Table leastOne = new Table();

        void make(Table toldNow, Table installedNow) {
            inUse.takeFrom(installedNow);
            spread(toldNow, sent);
            spread(inUse, sentByInstalled);
            findBest();
            findLeast();
        }

        Table leastTable() {
            return leastOne;
        }

        int hopsBeneath(int p) {
            return isPrefix(p) ? sent[p] : 0;
        }

        int installedHopsBeneath(int p) {
            return isPrefix(p) ? sentByInstalled[p] : 0;
        }

        int bestHops(int p) {
            return isPrefix(p) ? best[p] : 0;
        }

        int easeOf(int p) {
            return isPrefix(p) ? ease[p] : 0;
        }

        /** A hop that is not one of the best costs one more: the prefix itself, with a best one. */
        int costBy(int p, int hop) {
            return easeOf(p) + (hasBit(bestHops(p), hop) ? 0 : 1);
        }

        /** 0 it goes out, 1 it comes in, 2 its hop becomes another one; NONE: it is no change. */
        int kindOfChange(int p) {
            int had = inUse.hopAt(p);
            int gets = leastOne.hopAt(p);
            if (had == gets) {
                return NONE;
            }
            if (gets == NONE) {
                return 0;
            }
            return had == NONE ? 1 : 2;
        }

        int countChanges() {
            int found = 0;
            for (int p = 1; p < NUMBERS; p++) {
                if (kindOfChange(p) != NONE) {
                    found++;
                }
            }
            return found;
        }

        int changeNumber(int k) {
            int ahead = 0;
            for (int p = 1; p < NUMBERS; p++) {
                if (kindOfChange(p) != NONE) {
                    if (ahead == k) {
                        return p;
                    }
                    ahead++;
                }
            }
            return NONE;
        }

        int countProof() {
            int found = 0;
            for (int address = 0; address < ADDRESSES; address++) {
                if (proofFrom(address) != NONE) {
                    found++;
                }
            }
            return found;
        }

        int proofNumber(int k) {
            int ahead = 0;
            for (int address = 0; address < ADDRESSES; address++) {
                int p = proofFrom(address);
                if (p != NONE) {
                    if (ahead == k) {
                        return p;
                    }
                    ahead++;
                }
            }
            return NONE;
        }

        int firstSentElsewhere() {
            for (int address = 0; address < ADDRESSES; address++) {
                if (sent[ADDRESSES + address] != sentByInstalled[ADDRESSES + address]) {
                    return address;
                }
            }
            return NONE;
        }

        /** The prefix of the proof of which an address is the least one; NONE: it is the least one of none. */
        private int proofFrom(int address) {
            // The shortest one that will do is beneath no other; with all eight bits it always will.
            for (int length = 0; length <= BITS; length++) {
                int p = (ADDRESSES + address) >> (BITS - length);
                if (isOneHop(hopsBeneath(p)) && isOneHop(installedHopsBeneath(p))) {
                    return firstAddress(p) == address ? p : NONE;
                }
            }
            return NONE;
        }

        /** Of each prefix the hops (bits) of its addresses: what decides comes down first, then the bits go up. */
        private static void spread(Table from, int[] hops) {
            hops[1] = 1 << Math.max(from.hopAt(1), 0);
            for (int p = 2; p < NUMBERS; p++) {
                int hop = from.hopAt(p);
                hops[p] = hop == NONE ? hops[p >> 1] : 1 << hop;
            }
            for (int p = ADDRESSES - 1; p >= 1; p--) {
                hops[p] = hops[2 * p] | hops[2 * p + 1];
            }
        }

        /** One hop for both halves is best where both have it among their best; else either half pays one prefix. */
        private void findBest() {
            for (int p = ADDRESSES; p < NUMBERS; p++) {
                best[p] = sent[p];
                ease[p] = 0;
            }
            for (int p = ADDRESSES - 1; p >= 1; p--) {
                int both = best[2 * p] & best[2 * p + 1];
                best[p] = both != 0 ? both : best[2 * p] | best[2 * p + 1];
                ease[p] = ease[2 * p] + ease[2 * p + 1] + (both != 0 ? 0 : 1);
            }
        }

        private void findLeast() {
            leastOne.makeEmpty();
            for (int p = 1; p < NUMBERS; p++) {
                int comes = p == 1 ? 0 : fromAbove[p >> 1];
                if (hasBit(best[p], comes)) {
                    fromAbove[p] = comes;
                } else {
                    fromAbove[p] = lowestHop(best[p]);
                    leastOne.put(p, fromAbove[p]);
                }
            }
        }

        private static boolean hasBit(int bits, int bit) {
            return (bits >> bit & 1) == 1;
        }
    }

    /** The letters typed, and the table that they tell. */
    private static final class Tape {
        private static final int END = -1;

        private final int[] letters = new int[MOST_LETTERS];
        private final Table told = new Table();
        private int size = 0;
        private int place = 0;
        private int number = 1;

        int addLetter(int letter) {
            if (size >= MOST_LETTERS) {
                return FULL;
            }
            letters[size] = letter;
            size++;
            return size;
        }

        void makeEmpty() {
            size = 0;
        }

        Table toldTable() {
            return told;
        }

        /** The place of the fault; NONE: it is a text. */
        int parse() {
            told.makeEmpty();
            place = 0;
            for (int entry = 0; entry <= MOST_LETTERS; entry++) {
                int fault = parseEntry();
                if (fault != NONE) {
                    return fault;
                }
                int behind = letterHere();
                if (behind == END) {
                    return NONE;
                }
                if (behind != ';') {
                    return place;
                }
                place++;
            }
            return place;
        }

        private int parseEntry() {
            letterHere();
            int first = place;
            if (parseFigures() < BITS) {
                if (letterHere() != '*') {
                    return place;
                }
                place++;
            }
            if (letterHere() != ':') {
                return place;
            }
            place++;
            if (told.hopAt(number) != NONE) {
                return first;
            }
            int hop = letterHere() - '0';
            if (!isHop(hop)) {
                return place;
            }
            place++;
            told.put(number, hop);
            return NONE;
        }

        /** How many figures there are, eight at most; the number is that of their prefix then. */
        private int parseFigures() {
            number = 1;
            for (int figures = 0; figures < BITS; figures++) {
                int letter = letterHere();
                if (letter != '0' && letter != '1') {
                    return figures;
                }
                number = 2 * number + (letter - '0');
                place++;
            }
            return BITS;
        }

        /** Goes behind blanks; the letter that stands there, or END. */
        private int letterHere() {
            while (place < size && letters[place] == ' ') {
                place++;
            }
            return place < size ? letters[place] : END;
        }
    }

    /** Nothing, or a row of a lane; the items are held as longs, cut to what the lane can hold. */
    private static final class Sheet {
        private static final int NO_LANE = -1;

        private final long[] items = new long[MOST_ITEMS];
        private int ownLane = NO_LANE;
        private int size = 0;

        boolean holdsNothing() {
            return ownLane == NO_LANE;
        }

        boolean hasLaneOf(Sheet other) {
            return ownLane == other.ownLane;
        }

        boolean hasItems(int i, int n) {
            return n >= 0 && i >= 0 && i <= size - n;
        }

        /** What the machine finds, if n items from i on are taken as those of a lane; 0: nothing. */
        int refusal(int lane, int i, int n) {
            if (holdsNothing()) {
                return NULL;
            }
            if (ownLane != lane) {
                return CAST;
            }
            return hasItems(i, n) ? 0 : INDEX;
        }

        void startRow(int lane, int n) {
            Arrays.fill(items, 0L);
            ownLane = lane;
            size = n;
        }

        int makeNothing() {
            int had = size;
            ownLane = NO_LANE;
            size = 0;
            return had;
        }

        void setItem(int i, long v) {
            if (hasItems(i, 1)) {
                items[i] = lowestBits(v);
            }
        }

        void takeItems(int j, Sheet from, int i, int n) {
            if (from.hasItems(i, n) && hasItems(j, n)) {
                System.arraycopy(from.items, i, items, j, n);
            }
        }

        /** If n pairs from item i on are each an address and a hop. */
        boolean holdsPairs(int i, int n) {
            if (!hasItems(i, 2 * n)) {
                return false;
            }
            for (int t = 0; t < n; t++) {
                long address = items[i + 2 * t];
                long hop = items[i + 2 * t + 1];
                if (address < 0 || address >= ADDRESSES || hop < 0 || hop >= HOPS) {
                    return false;
                }
            }
            return true;
        }

        /** If no two of n pairs from item i on, alike in the first bits of their addresses, have unlike hops. */
        boolean isToldBy(int length, int i, int n) {
            if (!hasItems(i, 2 * n)) {
                return false;
            }
            int cut = BITS - length;
            for (int t = 0; t < n; t++) {
                for (int u = 0; u < t; u++) {
                    boolean alike = items[i + 2 * t] >> cut == items[i + 2 * u] >> cut;
                    if (alike && items[i + 2 * t + 1] != items[i + 2 * u + 1]) {
                        return false;
                    }
                }
            }
            return true;
        }

        private long lowestBits(long v) {
            switch (ownLane) {
                case 0:
                    return (byte) v;
                case 1:
                    return (short) v;
                case 2:
                    return (int) v;
                default:
                    return v;
            }
        }
    }
}

import java.math.BigInteger;
import java.util.ArrayList;
import java.util.Arrays;
import java.util.List;
import java.util.Random;
import java.util.TreeMap;

/** Long runs of calls by fixed seeds, against a model that is written another way, straight from the document's words. */
public final class ModelTest {
    private static final int BAD = -1, NOT = -2, FULL = -3, NONE = -4, NULL = -11, CAST = -12, INDEX = -13, SIZE = -14;
    private static final int RUNS = 600;
    private static final int CALLS = 512;

    /** The tables are maps from a text of bits to a hop. */
    private static final class Model {
        TreeMap<String, Integer> table = new TreeMap<>();
        TreeMap<String, Integer> installed = new TreeMap<>();
        int draw = 1;
        List<Object[]> past = new ArrayList<>();
        Object[] image = null;
        StringBuilder tape = new StringBuilder();
        long[][] rows = new long[4][];
        int[] lanes = new int[4];
        // What is known of the present tables, till a step begins.
        TreeMap<String, Integer> leastCache = null;

        static String bits(int p) {
            return Integer.toBinaryString(p).substring(1);
        }

        static int number(String bits) {
            return Integer.parseInt("1" + bits, 2);
        }

        static String addressBits(int address) {
            return bits(256 + address);
        }

        static String decider(TreeMap<String, Integer> t, String address) {
            for (int l = 8; l >= 0; l--) {
                if (t.containsKey(address.substring(0, l))) {
                    return address.substring(0, l);
                }
            }
            return null;
        }

        static int hop(TreeMap<String, Integer> t, int address) {
            String d = decider(t, addressBits(address));
            return d == null ? 0 : t.get(d);
        }

        static int orNone(Integer v) {
            return v == null ? NONE : v;
        }

        void step() {
            past.add(new Object[] {new TreeMap<>(table), new TreeMap<>(installed), draw});
            if (past.size() > 6) {
                past.remove(0);
            }
            leastCache = null;
        }

        /** The row of costs of a prefix by each hop from above: with the prefix by any hop, or without it. */
        int[] costs(String p) {
            int[] without = new int[8];
            if (p.length() == 8) {
                Arrays.fill(without, 1000);
                without[hop(table, number(p) - 256)] = 0;
            } else {
                int[] low = costs(p + "0");
                int[] high = costs(p + "1");
                for (int h = 0; h < 8; h++) {
                    without[h] = low[h] + high[h];
                }
            }
            int best = Arrays.stream(without).min().getAsInt();
            for (int h = 0; h < 8; h++) {
                without[h] = Math.min(without[h], best + 1);
            }
            return without;
        }

        int set(int[] costs) {
            int best = Arrays.stream(costs).min().getAsInt();
            int set = 0;
            for (int h = 0; h < 8; h++) {
                set |= costs[h] == best ? 1 << h : 0;
            }
            return set;
        }

        TreeMap<String, Integer> least() {
            if (leastCache == null) {
                leastCache = new TreeMap<>();
                int[] rowSets = new int[512];
                int[][] all = new int[512][];
                for (int p = 511; p >= 1; p--) {
                    all[p] = new int[8];
                    for (int h = 0; h < 8; h++) {
                        all[p][h] = p >= 256 ? (hop(table, p - 256) == h ? 0 : 1000) : all[2 * p][h] + all[2 * p + 1][h];
                    }
                    int best = Arrays.stream(all[p]).min().getAsInt();
                    for (int h = 0; h < 8; h++) {
                        all[p][h] = Math.min(all[p][h], best + 1);
                    }
                    rowSets[p] = set(all[p]);
                }
                descend("", 0, rowSets);
            }
            return leastCache;
        }

        void descend(String p, int comes, int[] sets) {
            int passes = comes;
            int set = sets[number(p)];
            if ((set & 1 << comes) == 0) {
                passes = Integer.numberOfTrailingZeros(set);
                leastCache.put(p, passes);
            }
            if (p.length() < 8) {
                descend(p + "0", passes, sets);
                descend(p + "1", passes, sets);
            }
        }

        List<Integer> leastNumbers() {
            List<Integer> numbers = new ArrayList<>();
            for (String p : least().keySet()) {
                numbers.add(number(p));
            }
            numbers.sort(null);
            return numbers;
        }

        List<Integer> changes() {
            List<Integer> found = new ArrayList<>();
            for (int p = 1; p < 512; p++) {
                if (orNone(installed.get(bits(p))) != orNone(least().get(bits(p)))) {
                    found.add(p);
                }
            }
            return found;
        }

        void proofBeneath(String p, int[] byTable, int[] byInstalled, List<Integer> found) {
            int first = Integer.parseInt((p + "00000000").substring(0, 8), 2);
            int last = Integer.parseInt((p + "11111111").substring(0, 8), 2);
            boolean one = true;
            for (int a = first; a <= last; a++) {
                one &= byTable[a] == byTable[first] && byInstalled[a] == byInstalled[first];
            }
            if (one) {
                found.add(number(p));
            } else {
                proofBeneath(p + "0", byTable, byInstalled, found);
                proofBeneath(p + "1", byTable, byInstalled, found);
            }
        }

        int[] hops(TreeMap<String, Integer> t) {
            int[] hops = new int[256];
            for (int a = 0; a < 256; a++) {
                hops[a] = hop(t, a);
            }
            return hops;
        }

        List<Integer> proof() {
            List<Integer> found = new ArrayList<>();
            proofBeneath("", hops(table), hops(installed), found);
            return found;
        }

        boolean redundant(String p) {
            TreeMap<String, Integer> fewer = new TreeMap<>(table);
            fewer.remove(p);
            return Arrays.equals(hops(fewer), hops(table));
        }

        int look(int address, int what) {
            if (address < 0 || address > 255 || what < 0 || what > 3) {
                return BAD;
            }
            String d = decider(table, addressBits(address));
            return what == 0 ? hop(table, address) : what == 1 ? (d == null ? NONE : number(d))
                : what == 2 ? hop(installed, address) : hop(least(), address);
        }

        int prefix(int p, int what) {
            if (p < 1 || p > 511 || what < 0 || what > 6) {
                return BAD;
            }
            String bits = bits(p);
            switch (what) {
                case 0: return orNone(table.get(bits));
                case 1: return orNone(installed.get(bits));
                case 2: return orNone(least().get(bits));
                case 3: return set(costs(bits));
                case 4: return Arrays.stream(costs(bits)).min().getAsInt();
                case 5:
                    int seen = 0;
                    for (int a = 0; a < 256; a++) {
                        seen |= addressBits(a).startsWith(bits) ? 1 << hop(table, a) : 0;
                    }
                    return seen;
                default: return !table.containsKey(bits) ? NONE : redundant(bits) ? 1 : 0;
            }
        }

        int cost(int p, int hop) {
            return p < 1 || p > 511 || hop < 0 || hop > 7 ? BAD : costs(bits(p))[hop];
        }

        int least(int k, int what) {
            if (k < 0 || what < 0 || what > 1) {
                return BAD;
            }
            if (k >= leastNumbers().size()) {
                return NONE;
            }
            int p = leastNumbers().get(k);
            return what == 0 ? p : least().get(bits(p));
        }

        int count(int what) {
            switch (what) {
                case 0: return table.size();
                case 1: return least().size();
                case 2: return installed.size();
                case 3: return changes().size();
                case 4: return proof().size();
                case 5: return (int) table.keySet().stream().filter(this::redundant).count();
                case 6:
                    for (int a = 0; a < 256; a++) {
                        if (hop(table, a) != hop(installed, a)) {
                            return a;
                        }
                    }
                    return NONE;
                case 7: return past.size();
                default: return BAD;
            }
        }

        int change(int k, int what) {
            if (k < 0 || what < 0 || what > 3) {
                return BAD;
            }
            if (k >= changes().size()) {
                return NONE;
            }
            int p = changes().get(k);
            int had = orNone(installed.get(bits(p)));
            int gets = orNone(least().get(bits(p)));
            return what == 0 ? p : what == 1 ? had : what == 2 ? gets : gets == NONE ? 0 : had == NONE ? 1 : 2;
        }

        int proof(int k, int what) {
            if (k < 0 || what < 0 || what > 2) {
                return BAD;
            }
            if (k >= proof().size()) {
                return NONE;
            }
            int p = proof().get(k);
            int first = Integer.parseInt((bits(p) + "00000000").substring(0, 8), 2);
            return what == 0 ? p : what == 1 ? hop(table, first) : hop(installed, first);
        }

        /** All sets of what is lost of the prefixes that the address has. */
        int lost(int address, int c, int what) {
            if (address < 0 || address > 255 || c < 0 || c > 10 || what < 0 || what > 1) {
                return BAD;
            }
            List<Integer> hops = new ArrayList<>();
            for (int l = 0; l <= 8; l++) {
                Integer h = table.get(addressBits(address).substring(0, l));
                if (h != null) {
                    hops.add(h);
                }
            }
            BigInteger above = BigInteger.ZERO;
            for (int lost = 0; lost < 1 << hops.size(); lost++) {
                int got = 0;
                BigInteger odds = BigInteger.ONE;
                for (int t = 0; t < hops.size(); t++) {
                    boolean isLost = (lost >> t & 1) == 1;
                    odds = odds.multiply(BigInteger.valueOf(isLost ? c : 10 - c));
                    got = isLost ? got : hops.get(t);
                }
                above = got == hop(table, address) ? above.add(odds) : above;
            }
            BigInteger below = BigInteger.TEN.pow(hops.size());
            BigInteger divisor = above.gcd(below);
            return (what == 0 ? above : below).divide(divisor).intValueExact();
        }

        int tell(int p, int hop) {
            if (p < 1 || p > 511 || hop < 0 || hop > 7) {
                return BAD;
            }
            int had = orNone(table.get(bits(p)));
            if (had == hop) {
                return NOT;
            }
            if (had == NONE && table.size() == 40) {
                return FULL;
            }
            step();
            table.put(bits(p), hop);
            return had == NONE ? 8 : had;
        }

        int out(int p) {
            if (p < 1 || p > 511) {
                return BAD;
            }
            if (!table.containsKey(bits(p))) {
                return NONE;
            }
            step();
            return table.remove(bits(p));
        }

        int rename(int hop, int other) {
            if (hop < 0 || hop > 7 || other < 0 || other > 7) {
                return BAD;
            }
            if (hop == other) {
                return NOT;
            }
            int found = (int) table.values().stream().filter(h -> h == hop).count();
            if (found == 0) {
                return NONE;
            }
            step();
            table.replaceAll((p, h) -> h == hop ? other : h);
            return found;
        }

        int install() {
            int changes = changes().size();
            if (changes == 0) {
                return NOT;
            }
            TreeMap<String, Integer> comes = new TreeMap<>(least());
            step();
            installed = comes;
            return changes;
        }

        int type(int letter) {
            if (letter < 32 || letter > 126) {
                return BAD;
            }
            if (tape.length() == 100) {
                return FULL;
            }
            return tape.append((char) letter).length();
        }

        /** Letters without blanks, each with its place; what may stand next is asked letter by letter. */
        int read() {
            List<Integer> places = new ArrayList<>();
            StringBuilder text = new StringBuilder();
            for (int i = 0; i < tape.length(); i++) {
                if (tape.charAt(i) != ' ') {
                    places.add(i);
                    text.append(tape.charAt(i));
                }
            }
            places.add(tape.length());
            tape.setLength(0);
            TreeMap<String, Integer> told = new TreeMap<>();
            String entry = "";
            int entryStart = 0;
            for (int i = 0; i <= text.length(); i++) {
                String upTo = entry + (i < text.length() ? text.charAt(i) : '$');
                if (upTo.matches("([01]{0,7}\\*|[01]{8}):")) {
                    String p = upTo.replaceAll("[*:]", "");
                    if (told.containsKey(p)) {
                        return -20 - places.get(entryStart);
                    }
                }
                if (upTo.matches("([01]{0,7}\\*|[01]{8}):[0-7][;$]")) {
                    told.put(entry.replaceAll("[*:].*", ""), entry.charAt(entry.length() - 1) - '0');
                    entry = "";
                    entryStart = i + 1;
                } else if (upTo.matches("[01]{0,8}|[01]{0,7}\\*|([01]{0,7}\\*|[01]{8}):[0-7]?")) {
                    entry = upTo;
                } else {
                    return -20 - places.get(i);
                }
            }
            step();
            table = told;
            return told.size();
        }

        int drift(int n) {
            if (n < 1 || n > 40) {
                return BAD;
            }
            for (int t = 0; t < n; t++) {
                step();
                draw = BigInteger.valueOf(draw).multiply(BigInteger.valueOf(1103515245)).add(BigInteger.valueOf(12345))
                    .mod(BigInteger.ONE.shiftLeft(31)).intValueExact();
                int x = draw / 65536;
                int l = x % 9;
                String p = bits((1 << l) + (x / 16) % (1 << l));
                int hop = x / 4096;
                if (orNone(table.get(p)) == hop) {
                    table.remove(p);
                } else if (table.containsKey(p) || table.size() < 40) {
                    table.put(p, hop);
                }
            }
            return table.size();
        }

        @SuppressWarnings("unchecked")
        void take(Object[] moment) {
            table = new TreeMap<>((TreeMap<String, Integer>) moment[0]);
            installed = new TreeMap<>((TreeMap<String, Integer>) moment[1]);
            draw = (Integer) moment[2];
            leastCache = null;
        }

        int undo() {
            if (past.isEmpty()) {
                return NONE;
            }
            take(past.remove(past.size() - 1));
            return past.size();
        }

        int seed(int v) {
            if (v < 0) {
                return BAD;
            }
            int was = draw;
            draw = v;
            return was;
        }

        int image() {
            image = new Object[] {new TreeMap<>(table), new TreeMap<>(installed), draw, new ArrayList<>(past)};
            return 1;
        }

        @SuppressWarnings("unchecked")
        int restore() {
            if (image == null) {
                return NONE;
            }
            take(image);
            past = new ArrayList<>((List<Object[]>) image[3]);
            return 1;
        }

        static boolean isNoLane(int sheet, int lane) {
            return sheet < 0 || sheet > 3 || lane < 0 || lane > 3;
        }

        static long cut(int lane, long v) {
            int off = 64 - (8 << lane);
            return v << off >> off;
        }

        int found(int sheet, int lane, long i, long n) {
            return rows[sheet] == null ? NULL : lanes[sheet] != lane ? CAST
                : n < 0 || i < 0 || i + n > rows[sheet].length ? INDEX : 0;
        }

        int lengths(int sheet, int lane, int i, int n) {
            if (isNoLane(sheet, lane) || n < 1 || n > 12) {
                return BAD;
            }
            int found = found(sheet, lane, i, 2 * n);
            if (found != 0) {
                return found;
            }
            int set = 0;
            for (int l = 0; l <= 8; l++) {
                TreeMap<String, Long> hops = new TreeMap<>();
                boolean told = true;
                for (int t = 0; t < n; t++) {
                    long a = rows[sheet][i + 2 * t];
                    long h = rows[sheet][i + 2 * t + 1];
                    if (a < 0 || a > 255 || h < 0 || h > 7) {
                        return NOT;
                    }
                    Long other = hops.put(addressBits((int) a).substring(0, l), h);
                    told &= other == null || other == h;
                }
                set += told ? 1 << l : 0;
            }
            return set;
        }

        int film(int k, int n, int sheet, int lane, int i) {
            if (k < 0 || n < 0 || n > 12 || isNoLane(sheet, lane)) {
                return BAD;
            }
            if ((long) k + n > least().size()) {
                return NOT;
            }
            int found = found(sheet, lane, i, 2 * n);
            if (found != 0) {
                return found;
            }
            for (int t = 0; t < n; t++) {
                rows[sheet][i + 2 * t] = cut(lane, least(k + t, 0));
                rows[sheet][i + 2 * t + 1] = cut(lane, least(k + t, 1));
            }
            return 2 * n;
        }

        int sheet(int sheet, int lane, int n) {
            if (isNoLane(sheet, lane) || n > 30) {
                return BAD;
            }
            if (n < 0) {
                return SIZE;
            }
            rows[sheet] = new long[n];
            lanes[sheet] = lane;
            return n;
        }

        int drop(int sheet) {
            if (sheet < 0 || sheet > 3) {
                return BAD;
            }
            if (rows[sheet] == null) {
                return NULL;
            }
            int had = rows[sheet].length;
            rows[sheet] = null;
            return had;
        }

        int item(int sheet, int lane, int i, long v) {
            if (isNoLane(sheet, lane)) {
                return BAD;
            }
            int found = found(sheet, lane, i, 1);
            if (found != 0) {
                return found;
            }
            rows[sheet][i] = cut(lane, v);
            return 1;
        }

        int copy(int from, int i, int to, int j, int n) {
            if (from < 0 || from > 3 || to < 0 || to > 3) {
                return BAD;
            }
            if (rows[from] == null || rows[to] == null) {
                return NULL;
            }
            int lane = lanes[from];
            if (lanes[to] != lane) {
                return CAST;
            }
            if (found(from, lane, i, n) != 0 || found(to, lane, j, n) != 0) {
                return INDEX;
            }
            long[] taken = Arrays.copyOfRange(rows[from], i, i + n);
            for (int t = 0; t < n; t++) {
                rows[to][j + t] = taken[t];
            }
            return n;
        }
    }

    private final Random random;
    private final Model model = new Model();
    private final LeastRoutes real = new LeastRoutes();
    private String call = "";
    private int got = 0;
    private int want = 0;
    /** A run that likes few lanes and many hops alike reaches other states than one that takes all alike. */
    private final int hopsInUse;
    private final int lanesInUse;
    private final int shortest;

    private ModelTest(long seed) {
        random = new Random(seed);
        hopsInUse = 1 + random.nextInt(8);
        lanesInUse = 1 + random.nextInt(4);
        shortest = random.nextInt(9);
    }

    private int within(int low, int high) {
        return low + random.nextInt(high - low + 1);
    }

    /** Mostly low .. high, at times just outside, at times far away. */
    private int about(int low, int high) {
        switch (random.nextInt(40)) {
            case 0: return low - 1;
            case 1: return high + 1;
            case 2: return random.nextInt();
            case 3: return random.nextBoolean() ? Integer.MIN_VALUE : Integer.MAX_VALUE;
            case 4: return low;
            case 5: return high;
            default: return within(low, high);
        }
    }

    private int somePrefix() {
        if (random.nextInt(8) == 0) {
            return about(1, 511);
        }
        if (random.nextInt(3) == 0 && !model.table.isEmpty()) {
            List<String> there = new ArrayList<>(model.table.keySet());
            int p = Model.number(there.get(random.nextInt(there.size())));
            return random.nextInt(3) == 0 ? Math.max(1, p ^ 1) : random.nextInt(3) == 0 ? Math.max(1, p / 2) : p;
        }
        int l = within(Math.min(shortest, 8), 8);
        l = random.nextBoolean() ? l : within(0, 8);
        return (1 << l) + random.nextInt(1 << l);
    }

    private int someHop() {
        return random.nextInt(25) == 0 ? about(0, 7) : random.nextInt(hopsInUse);
    }

    private int someLane(int sheet) {
        return sheet >= 0 && sheet < 4 && random.nextInt(6) != 0 && model.rows[sheet] != null
            ? model.lanes[sheet] : random.nextInt(20) == 0 ? about(0, 3) : random.nextInt(lanesInUse);
    }

    private int someItem(int sheet, int n) {
        int size = sheet >= 0 && sheet < 4 && model.rows[sheet] != null ? model.rows[sheet].length : 5;
        return about(0, Math.max(0, size - n));
    }

    private String entry() {
        int l = random.nextInt(9);
        StringBuilder s = new StringBuilder(Model.bits((1 << l) + random.nextInt(1 << l)));
        return s.append(l < 8 ? "*:" : ":").append(random.nextInt(hopsInUse)).toString();
    }

    private String text() {
        StringBuilder s = new StringBuilder(entry());
        int more = random.nextInt(12);
        for (int k = 0; k < more; k++) {
            s.append(';').append(random.nextInt(12) == 0 ? s.substring(0, s.indexOf(":")) + ":1" : entry());
        }
        for (int k = random.nextInt(4); k > 0; k--) {
            s.insert(random.nextInt(s.length() + 1), ' ');
        }
        if (random.nextInt(3) == 0) {
            int at = random.nextInt(s.length());
            switch (random.nextInt(4)) {
                case 0: s.setCharAt(at, "01*:;7829 x".charAt(random.nextInt(11))); break;
                case 1: s.insert(at, "01*:;7829 x".charAt(random.nextInt(11))); break;
                case 2: s.deleteCharAt(at); break;
                default: s.setLength(at); break;
            }
        }
        return s.toString();
    }

    private boolean same(String name, int gotNow, int wantNow, long... args) {
        call = name + Arrays.toString(args);
        got = gotNow;
        want = wantNow;
        return got == want;
    }

    /** One step of a run: one call, or the letters of a text; how many calls, or -1: one is not as due. */
    private int oneStep() {
        int kind = random.nextInt(40);
        if (kind == 0) {
            String text = text();
            for (int k = 0; k < text.length(); k++) {
                int c = text.charAt(k);
                if (!same("type", real.type(c), model.type(c), c)) {
                    return -1;
                }
            }
            return same("read", real.read(), model.read()) ? text.length() + 1 : -1;
        }
        boolean right = kind < 14 ? ask(kind) : kind < 26 ? act(kind) : handle(kind);
        return right ? 1 : -1;
    }

    private boolean ask(int kind) {
        switch (kind) {
            case 1: case 2: {
                int a = about(0, 255), w = about(0, 3);
                return same("look", real.look(a, w), model.look(a, w), a, w);
            }
            case 3: case 4: case 5: {
                int p = somePrefix(), w = about(0, 6);
                return same("prefix", real.prefix(p, w), model.prefix(p, w), p, w);
            }
            case 6: {
                int p = somePrefix(), h = about(0, 7);
                return same("cost", real.cost(p, h), model.cost(p, h), p, h);
            }
            case 7: case 8: {
                int k = about(0, model.least().size()), w = about(0, 1);
                return same("least", real.least(k, w), model.least(k, w), k, w);
            }
            case 9: case 10: {
                int w = about(0, 7);
                return same("count", real.count(w), model.count(w), w);
            }
            case 11: {
                int k = about(0, model.changes().size()), w = about(0, 3);
                return same("change", real.change(k, w), model.change(k, w), k, w);
            }
            case 12: {
                int k = about(0, model.proof().size()), w = about(0, 2);
                return same("proof", real.proof(k, w), model.proof(k, w), k, w);
            }
            default: {
                int a = about(0, 255), c = about(0, 10), w = about(0, 1);
                return same("lost", real.lost(a, c, w), model.lost(a, c, w), a, c, w);
            }
        }
    }

    private boolean act(int kind) {
        switch (kind) {
            case 14: case 15: case 16: case 17: {
                int p = somePrefix(), h = someHop();
                return same("tell", real.tell(p, h), model.tell(p, h), p, h);
            }
            case 18: {
                int p = somePrefix();
                return same("out", real.out(p), model.out(p), p);
            }
            case 19: {
                int h = someHop(), o = someHop();
                return random.nextInt(4) != 0 || same("rename", real.rename(h, o), model.rename(h, o), h, o);
            }
            case 20:
                return same("install", real.install(), model.install());
            case 21: {
                int n = random.nextInt(3) == 0 ? about(1, 40) : within(1, 4);
                return same("drift", real.drift(n), model.drift(n), n);
            }
            case 22: case 23:
                return same("undo", real.undo(), model.undo());
            case 24: {
                int v = random.nextBoolean() ? random.nextInt() : random.nextInt(3);
                return same("seed", real.seed(v), model.seed(v), v);
            }
            default:
                return random.nextBoolean() ? same("image", real.image(), model.image())
                    : same("restore", real.restore(), model.restore());
        }
    }

    private boolean handle(int kind) {
        int s = about(0, 3);
        switch (kind) {
            case 26: case 27: case 28: case 29: {
                int lane = someLane(s), n = random.nextBoolean() ? within(1, 3) : about(1, 12), i = someItem(s, 2 * n);
                return same("lengths", real.lengths(s, lane, i, n), model.lengths(s, lane, i, n), s, lane, i, n);
            }
            case 30: {
                int k = about(0, model.least().size()), n = about(0, random.nextBoolean() ? 2 : 12);
                int lane = someLane(s), i = someItem(s, 2 * n);
                return same("film", real.film(k, n, s, lane, i), model.film(k, n, s, lane, i), k, n, s, lane, i);
            }
            case 31: {
                int lane = someLane(-1), n = about(0, 30);
                return same("sheet", real.sheet(s, lane, n), model.sheet(s, lane, n), s, lane, n);
            }
            case 32:
                return random.nextInt(3) != 0 || same("drop", real.drop(s), model.drop(s), s);
            case 33: case 34: {
                int to = about(0, 3), n = about(0, 12), i = someItem(s, n), j = someItem(to, n);
                return same("copy", real.copy(s, i, to, j, n), model.copy(s, i, to, j, n), s, i, to, j, n);
            }
            default: {
                int lane = someLane(s), i = someItem(s, 1);
                long v = random.nextInt(12) == 0 ? random.nextLong() : random.nextInt(12) == 0 ? random.nextInt(600) - 200
                    : i % 2 == 0 ? random.nextInt(256) : random.nextInt(hopsInUse);
                return same("item", real.item(s, lane, i, v), model.item(s, lane, i, v), s, lane, i, v);
            }
        }
    }

    private boolean run(int run) {
        for (int calls = 0; calls < CALLS - 101; ) {
            int more = oneStep();
            if (more < 0) {
                System.out.println("run " + run + ", after " + calls + " calls: " + call + " answered " + got
                    + ", due is " + want);
                return false;
            }
            calls += more;
        }
        return true;
    }

    public static void main(String[] args) {
        int wrong = 0;
        for (int run = 0; run < RUNS; run++) {
            wrong += new ModelTest(20261118L * 1000 + run).run(run) ? 0 : 1;
        }
        System.out.println(wrong == 0 ? "all runs are as in the model" : wrong + " runs are not as in the model");
        if (wrong != 0) {
            System.exit(1);
        }
    }
}

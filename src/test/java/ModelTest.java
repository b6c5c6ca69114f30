import java.util.ArrayList;
import java.util.List;
import java.util.Random;
import java.util.TreeSet;

/**
 * Random runs of calls, each answer held against a second, slower writing of the document, which
 * fails on any sum or product that a long does not hold.
 */
public final class ModelTest {
    private static final int NONE = -1, UNKNOWN = -1001, OUTSIDE = -1002, NOT = -1003, FULL = -1004;

    /** The document once more, plainly. */
    static final class Model {
        List<int[]> pieces = new ArrayList<>();
        List<int[]> holes = new ArrayList<>();
        List<int[]> notes = new ArrayList<>();
        int[] ends = {0, 0};
        TreeSet<Integer> drills = new TreeSet<>();
        int reach = 2;
        int rounds = 0;
        List<List<int[]>> shelfPieces = new ArrayList<>();
        List<List<int[]>> shelfHoles = new ArrayList<>();
        List<int[]> shelfEnds = new ArrayList<>();

        Model() {
            for (int s = 1; s <= 60; s++) drills.add(s);
            for (int s = 0; s < 2; s++) {
                shelfPieces.add(null);
                shelfHoles.add(null);
                shelfEnds.add(null);
            }
        }

        static boolean out(int v, int least, int most) {
            return v < least || v > most;
        }

        int length() {
            int sum = 0;
            for (int[] p : pieces) sum += p[0];
            return sum;
        }

        int piece(int length, int bore) {
            if (out(length, 1, 400) || out(bore, 1, 100)) return OUTSIDE;
            if (pieces.size() == 12) return FULL;
            pieces.add(new int[] {length, bore});
            return length();
        }

        int cone(int length, int from, int to, int n) {
            if (out(length, 1, 400) || out(from, 1, 100) || out(to, 1, 100) || out(n, 2, 12)) return OUTSIDE;
            if (12 - pieces.size() < n) return FULL;
            for (int k = 0; k < n; k++) pieces.add(new int[] {length, from + (to - from) * k / (n - 1)});
            return length();
        }

        int holeAt(int place) {
            for (int h = 0; h < holes.size(); h++) if (holes.get(h)[0] == place) return h;
            return NONE;
        }

        boolean outHole(int what, int v) {
            if (what == 0) return out(v, 1, length() - 1);
            if (what == 1) return out(v, 1, 60);
            return what != 2 || out(v, 0, 60);
        }

        int hole(int place, int size, int chimney) {
            if (outHole(0, place) || outHole(1, size) || outHole(2, chimney)) return OUTSIDE;
            if (holeAt(place) != NONE) return NOT;
            if (holes.size() == 6) return FULL;
            holes.add(new int[] {place, size, chimney});
            return holes.size() - 1;
        }

        int set(int hole, int what, int v) {
            if (out(hole, 0, holes.size() - 1)) return UNKNOWN;
            if (outHole(what, v)) return OUTSIDE;
            for (int h = 0; what == 0 && h < holes.size(); h++) {
                if (h != hole && holes.get(h)[0] == v) return NOT;
            }
            int old = holes.get(hole)[what];
            holes.get(hole)[what] = v;
            return old;
        }

        int end(int what, int v) {
            if (out(what, 0, 1) || out(v, 0, 1)) return OUTSIDE;
            int old = ends[what];
            ends[what] = v;
            return old;
        }

        int clear() {
            int many = pieces.size();
            pieces.clear();
            holes.clear();
            notes.clear();
            ends = new int[] {0, 0};
            rounds = 0;
            return many;
        }

        int told(int piece, int what) {
            if (out(piece, 0, pieces.size() - 1)) return UNKNOWN;
            return out(what, 0, 1) ? OUTSIDE : pieces.get(piece)[what];
        }

        int bored(int hole, int what) {
            if (out(hole, 0, holes.size() - 1)) return UNKNOWN;
            if (out(what, 0, 4)) return OUTSIDE;
            int place = holes.get(hole)[0];
            if (what == 3) return pieceOfUnit(place);
            if (what < 3) return holes.get(hole)[what];
            int nearer = 0;
            for (int[] h : holes) if (h[0] < place) nearer++;
            return nearer;
        }

        /** The piece that the unit from place - 1 to place lies in. */
        int pieceOfUnit(int place) {
            int k = 0;
            int left = place;
            while (left > pieces.get(k)[0]) left -= pieces.get(k++)[0];
            return k;
        }

        int count(int what) {
            if (out(what, 0, 10)) return OUTSIDE;
            int[] misses = misses();
            return new int[] {pieces.size(), holes.size(), notes.size(), length(), ends[0], ends[1], reach,
                drills.size(), misses[0], misses[1], rounds}[what];
        }

        int sine(int t) {
            if (out(t, 0, 65535)) return OUTSIDE;
            long x = t % 32768;
            long p = x * (32768 - x);
            long v = 131068 * p / (1342177280 - p);
            return (int) (t >= 32768 ? -v : v);
        }

        /** Where stretches end, from the far end to the mouth. */
        int[] stops() {
            TreeSet<Integer> all = new TreeSet<>();
            int end = 0;
            all.add(0);
            for (int[] p : pieces) all.add(end += p[0]);
            for (int[] h : holes) all.add(h[0]);
            int[] row = new int[all.size()];
            int i = row.length;
            for (int place : all) row[--i] = place;
            return row;
        }

        /** For each stretch its length, its bore, the hole behind it (or NONE). */
        int[][] stretches() {
            int[] stops = stops();
            int[][] all = new int[stops.length - 1][];
            for (int i = 0; i < all.length; i++) {
                int to = stops[i + 1];
                all[i] = new int[] {stops[i] - to, pieces.get(pieceOfUnit(to + 1))[1], holeAt(to)};
            }
            return all;
        }

        long waves(int f, int open, int[][] stretches) {
            long p = ends[1] == 0 ? 0 : 1048576;
            long u = ends[1] == 0 ? 1048576 : 0;
            for (int[] stretch : stretches) {
                long b = stretch[1];
                int t = f * stretch[0] * 16 % 65536;
                long s = sine(t);
                long c = sine((t + 16384) % 65536);
                long pp = Math.addExact(Math.multiplyExact(p, c) >> 15,
                    Math.multiplyExact(Math.multiplyExact(u, s) >> 15, 10000L) / (b * b));
                long uu = Math.subtractExact(Math.multiplyExact(u, c) >> 15,
                    Math.multiplyExact(Math.multiplyExact(p, s) >> 15, b * b) / 10000);
                while (Math.abs(pp) >= 1099511627776L || Math.abs(uu) >= 1099511627776L) {
                    pp = Math.floorDiv(pp, 256L);
                    uu = Math.floorDiv(uu, 256L);
                }
                p = pp;
                u = uu;
                int h = stretch[2];
                if (h != NONE && open / (1 << h) % 2 == 1) {
                    long size = holes.get(h)[1];
                    long chimney = holes.get(h)[2];
                    u = Math.addExact(u, Math.multiplyExact(p, size * size) / (25 * (size + chimney) * f));
                }
            }
            return ends[0] == 0 ? p : u;
        }

        long worth(int f, int open) {
            if (out(f, 1, 300) || out(open, 0, 63)) return OUTSIDE;
            return pieces.isEmpty() ? NOT : waves(f, open, stretches());
        }

        List<Integer> tones(int open) {
            List<Integer> all = new ArrayList<>();
            if (pieces.isEmpty()) return all;
            boolean[] above = new boolean[301];
            int[][] stretches = stretches();
            for (int f = 1; f <= 300; f++) above[f] = waves(f, open, stretches) > 0;
            for (int f = 1; f < 300; f++) if (above[f] != above[f + 1]) all.add(f);
            return all;
        }

        int toneOf(int open, int i) {
            List<Integer> all = tones(open);
            return i < all.size() ? all.get(i) : NONE;
        }

        int tone(int open, int i) {
            if (out(open, 0, 63) || i < NONE) return OUTSIDE;
            if (pieces.isEmpty()) return NOT;
            return i == NONE ? tones(open).size() : toneOf(open, i);
        }

        int nearest(int pitch, int what) {
            if (out(pitch, 1, 300) || out(what, 0, 1)) return OUTSIDE;
            if (pieces.isEmpty()) return NOT;
            int[] found = {NONE, NONE};
            for (int open = (1 << holes.size()) - 1; open >= 0; open--) {
                int t = toneOf(open, 0);
                if (t == NONE) continue;
                if (found[1] == NONE || Math.abs(t - pitch) <= Math.abs(found[1] - pitch)) found = new int[] {open, t};
            }
            return found[what];
        }

        int note(int open, int which, int wanted) {
            if (out(open, 0, 63) || out(which, 0, 5) || out(wanted, 1, 300)) return OUTSIDE;
            if (notes.size() == 6) return FULL;
            notes.add(new int[] {open, which, wanted});
            return notes.size() - 1;
        }

        int miss(int[] note) {
            int t = toneOf(note[0], note[1]);
            return t == NONE ? 300 : Math.abs(t - note[2]);
        }

        int noted(int note, int what) {
            if (out(note, 0, notes.size() - 1)) return UNKNOWN;
            if (out(what, 0, 4)) return OUTSIDE;
            int[] n = notes.get(note);
            return what < 3 ? n[what] : what == 3 ? toneOf(n[0], n[1]) : miss(n);
        }

        int[] misses() {
            int[] all = {0, 0};
            for (int[] n : notes) {
                int m = miss(n);
                all[0] = Math.max(all[0], m);
                all[1] += m;
            }
            return all;
        }

        int drill(int s, boolean has) {
            if (out(s, 1, 60)) return OUTSIDE;
            if (has) drills.add(s); else drills.remove(s);
            return drills.size();
        }

        int reach(int v) {
            if (out(v, 1, 100)) return OUTSIDE;
            int old = reach;
            reach = v;
            return old;
        }

        /** Holes next to one another, in the order of their places, that are apart enough. */
        List<String> pairsApart() {
            List<int[]> row = new ArrayList<>(holes);
            row.sort((a, b) -> Integer.compare(a[0], b[0]));
            List<String> pairs = new ArrayList<>();
            for (int i = 0; i + 1 < row.size(); i++) {
                if (row.get(i + 1)[0] - row.get(i)[0] >= reach) {
                    pairs.add(holes.indexOf(row.get(i)) + " " + holes.indexOf(row.get(i + 1)));
                }
            }
            return pairs;
        }

        int[] moved(int h, int m) {
            int[] now = holes.get(h);
            Integer v;
            if (m < 2) {
                v = now[0] + (m == 0 ? 1 : -1);
                if (out(v, 1, length() - 1) || holeAt(v) != NONE) return null;
            } else {
                v = m == 2 ? drills.higher(now[1]) : drills.lower(now[1]);
                if (v == null) return null;
            }
            return m < 2 ? new int[] {v, now[1], now[2]} : new int[] {now[0], v, now[2]};
        }

        int round() {
            if (pieces.isEmpty() || holes.isEmpty() || notes.isEmpty()) return NOT;
            int[] least = misses();
            List<String> apart = pairsApart();
            int bestHole = NONE;
            int[] best = null;
            for (int h = 0; h < holes.size(); h++) {
                int[] now = holes.get(h);
                for (int m = 0; m < 4; m++) {
                    int[] then = moved(h, m);
                    if (then == null) continue;
                    holes.set(h, then);
                    if (pairsApart().containsAll(apart)) {
                        int[] got = misses();
                        if (got[0] < least[0] || got[0] == least[0] && got[1] < least[1]) {
                            least = got;
                            bestHole = h;
                            best = then;
                        }
                    }
                    holes.set(h, now);
                }
            }
            if (best == null) return 0;
            holes.set(bestHole, best);
            rounds++;
            return 1;
        }

        static List<int[]> copy(List<int[]> rows) {
            List<int[]> all = new ArrayList<>();
            for (int[] r : rows) all.add(r.clone());
            return all;
        }

        int keep(int s) {
            if (out(s, 0, 1)) return UNKNOWN;
            shelfPieces.set(s, copy(pieces));
            shelfHoles.set(s, copy(holes));
            shelfEnds.set(s, ends.clone());
            return 1;
        }

        int back(int s) {
            if (out(s, 0, 1)) return UNKNOWN;
            if (shelfEnds.get(s) == null) return NOT;
            pieces = copy(shelfPieces.get(s));
            holes = copy(shelfHoles.get(s));
            ends = shelfEnds.get(s).clone();
            return 1;
        }

        static int unlike(List<int[]> a, List<int[]> b, int numbers) {
            int n = 0;
            for (int i = 0; i < Math.max(a.size(), b.size()); i++) {
                for (int k = 0; k < numbers; k++) {
                    if (i >= a.size() || i >= b.size() || a.get(i)[k] != b.get(i)[k]) n++;
                }
            }
            return n;
        }

        int differs(int s) {
            if (out(s, 0, 1)) return UNKNOWN;
            if (shelfEnds.get(s) == null) return NOT;
            int n = unlike(pieces, shelfPieces.get(s), 2) + unlike(holes, shelfHoles.get(s), 3);
            for (int e = 0; e < 2; e++) if (ends[e] != shelfEnds.get(s)[e]) n++;
            return n;
        }
    }

    /** One object of each sort, called alike. */
    private static final class Pair {
        final BoredPipes real = new BoredPipes();
        final Model model = new Model();
        final StringBuilder run = new StringBuilder();
        int calls = 0;

        /** The document promises nothing of an object's 513th call. */
        void same(String call, long got, long due) {
            calls++;
            if (calls > 512) throw new IllegalStateException("too many calls of one object");
            run.append(call).append(" = ").append(due).append('\n');
            if (got == due) return;
            System.out.println(run + "the last call answered " + got);
            System.exit(1);
        }
    }

    private static final int[] STRANGE = {Integer.MIN_VALUE, Integer.MAX_VALUE, -1, -2, 0, 1, 2, 5, 6, 63, 64, 300, 301,
        Integer.MIN_VALUE + 1, Integer.MAX_VALUE - 1, 65535, 65536, 1 << 30, 32, 33};

    /** A number of the bounds or just beside them, now and then a strange one. */
    private static int some(Random r, int least, int most) {
        int w = r.nextInt(100);
        if (w < 2) return STRANGE[r.nextInt(STRANGE.length)];
        if (w < 4) return least - 1;
        if (w < 6) return most + 1;
        if (w < 9) return least;
        if (w < 12) return most;
        return least + r.nextInt(Math.max(1, most - least + 1));
    }

    private static void build(Pair x, Random r, int longest) {
        int a = some(r, 1, longest);
        int b = some(r, 1, 100);
        int c = some(r, 1, 100);
        switch (r.nextInt(6)) {
            case 0: x.same("piece " + a + " " + b, x.real.piece(a, b), x.model.piece(a, b)); break;
            case 1: {
                int n = some(r, 2, r.nextInt(4) == 0 ? 12 : 4);
                x.same("cone " + a + " " + b + " " + c + " " + n, x.real.cone(a, b, c, n), x.model.cone(a, b, c, n));
                break;
            }
            case 2:
            case 3: {
                int p = some(r, 1, Math.max(1, x.model.length() - 1));
                int s = some(r, 1, 60);
                int h = some(r, 0, 60);
                x.same("hole " + p + " " + s + " " + h, x.real.hole(p, s, h), x.model.hole(p, s, h));
                break;
            }
            case 4: {
                int h = some(r, 0, Math.max(0, x.model.holes.size() - 1));
                int what = some(r, 0, 2);
                int v = some(r, 0, what == 0 ? Math.max(1, x.model.length() - 1) : 60);
                if (r.nextInt(4) == 0 && !x.model.holes.isEmpty()) v = x.model.holes.get(0)[0];
                x.same("set " + h + " " + what + " " + v, x.real.set(h, what, v), x.model.set(h, what, v));
                break;
            }
            default: {
                int what = some(r, 0, 1);
                int v = some(r, 0, 1);
                x.same("end " + what + " " + v, x.real.end(what, v), x.model.end(what, v));
            }
        }
    }

    private static void ask(Pair x, Random r) {
        int a = some(r, 0, 11);
        int b = some(r, 0, 5);
        int open = some(r, 0, 63);
        int pitch = some(r, 1, 300);
        switch (r.nextInt(8)) {
            case 0: x.same("told " + a + " " + b, x.real.told(a, b), x.model.told(a, b)); break;
            case 1: x.same("bored " + b + " " + a, x.real.bored(b, a), x.model.bored(b, a)); break;
            case 2: x.same("count " + a, x.real.count(a), x.model.count(a)); break;
            case 3: {
                int t = some(r, 0, 65535);
                x.same("sine " + t, x.real.sine(t), x.model.sine(t));
                break;
            }
            case 4: x.same("worth " + pitch + " " + open, x.real.worth(pitch, open), x.model.worth(pitch, open)); break;
            case 5: {
                int i = some(r, -1, 20);
                x.same("tone " + open + " " + i, x.real.tone(open, i), x.model.tone(open, i));
                break;
            }
            case 6: {
                int what = some(r, 0, 1);
                if (r.nextInt(3) == 0) {
                    x.same("nearest " + pitch + " " + what, x.real.nearest(pitch, what), x.model.nearest(pitch, what));
                }
                break;
            }
            default: x.same("noted " + b + " " + (a - 1), x.real.noted(b, a - 1), x.model.noted(b, a - 1));
        }
    }

    private static void change(Pair x, Random r) {
        int s = some(r, 0, 1);
        switch (r.nextInt(9)) {
            case 0:
            case 1: {
                int open = some(r, 0, 63);
                int which = r.nextInt(2) == 0 ? 0 : some(r, 0, 5);
                int wanted = some(r, 1, r.nextInt(2) == 0 ? 300 : 60);
                x.same("note " + open + " " + which + " " + wanted, x.real.note(open, which, wanted),
                    x.model.note(open, which, wanted));
                break;
            }
            case 2: {
                int d = some(r, 1, 60);
                boolean has = r.nextInt(3) == 0;
                x.same("drill " + d + " " + has, x.real.drill(d, has), x.model.drill(d, has));
                break;
            }
            case 3: {
                int v = some(r, 1, r.nextInt(2) == 0 ? 100 : 6);
                x.same("reach " + v, x.real.reach(v), x.model.reach(v));
                break;
            }
            case 4:
            case 5: x.same("round", x.real.round(), x.model.round()); break;
            case 6: x.same("keep " + s, x.real.keep(s), x.model.keep(s)); break;
            case 7: x.same("back " + s, x.real.back(s), x.model.back(s)); break;
            default: x.same("differs " + s, x.real.differs(s), x.model.differs(s));
        }
    }

    private static void wholeState(Pair x) {
        for (int w = 0; w <= 10; w++) x.same("count " + w, x.real.count(w), x.model.count(w));
        for (int k = 0; k < x.model.pieces.size(); k++) {
            for (int w = 0; w < 2; w++) x.same("told " + k + " " + w, x.real.told(k, w), x.model.told(k, w));
        }
        for (int h = 0; h < x.model.holes.size(); h++) {
            for (int w = 0; w < 5; w++) x.same("bored " + h + " " + w, x.real.bored(h, w), x.model.bored(h, w));
        }
        for (int n = 0; n < x.model.notes.size(); n++) {
            for (int w = 0; w < 5; w++) x.same("noted " + n + " " + w, x.real.noted(n, w), x.model.noted(n, w));
        }
        for (int s = 0; s < 2; s++) x.same("differs " + s, x.real.differs(s), x.model.differs(s));
    }

    private static void randomRun(long seed) {
        Random r = new Random(seed);
        Pair x = new Pair();
        int longest = new int[] {3, 12, 40, 400}[r.nextInt(4)];
        while (x.calls < 300) {
            int w = r.nextInt(20);
            if (w < 8) build(x, r, longest);
            else if (w < 13) ask(x, r);
            else if (w < 19 || r.nextInt(4) > 0) change(x, r);
            else x.same("clear", x.real.clear(), x.model.clear());
        }
        wholeState(x);
    }

    /** Small pipes with many holes close together, rounds till none is better. */
    private static void roundsRun(long seed) {
        Random r = new Random(seed);
        Pair x = new Pair();
        for (int k = 0; k <= r.nextInt(4); k++) {
            int l = 5 + r.nextInt(60);
            int b = 1 + r.nextInt(40);
            x.same("piece " + l + " " + b, x.real.piece(l, b), x.model.piece(l, b));
        }
        int length = x.model.length();
        int middle = r.nextInt(length);
        for (int k = 0; k <= r.nextInt(6) + 1; k++) {
            int p = r.nextBoolean() ? middle + r.nextInt(10) : r.nextInt(length);
            int s = 1 + r.nextInt(60);
            int c = r.nextInt(61);
            x.same("hole " + p + " " + s + " " + c, x.real.hole(p, s, c), x.model.hole(p, s, c));
        }
        for (int k = 0; k <= r.nextInt(6); k++) {
            int open = r.nextInt(64);
            int which = r.nextInt(4) == 0 ? r.nextInt(3) : 0;
            int wanted = Math.max(1, x.model.toneOf(open, which)) + r.nextInt(9) - 4;
            x.same("note " + open + " " + which + " " + wanted, x.real.note(open, which, wanted),
                x.model.note(open, which, wanted));
        }
        int v = 1 + r.nextInt(5);
        x.same("reach " + v, x.real.reach(v), x.model.reach(v));
        for (int d = 1; d <= 60 && r.nextInt(60) > 0; d++) {
            boolean has = r.nextBoolean();
            x.same("drill " + d + " " + has, x.real.drill(d, has), x.model.drill(d, has));
        }
        for (int k = 0; k < 5; k++) {
            x.same("round", x.real.round(), x.model.round());
            wholeState(x);
        }
    }

    public static void main(String[] args) {
        BoredPipes x = new BoredPipes();
        Model m = new Model();
        for (int t = -1; t <= 65536; t++) {
            if (t % 500 == 0) x = new BoredPipes();
            long got = x.sine(t);
            if (got != m.sine(t)) {
                System.out.println("sine " + t + " answered " + got + ", due is " + m.sine(t));
                System.exit(1);
            }
        }
        int runs = args.length > 0 ? Integer.parseInt(args[0]) : 150;
        for (int seed = 0; seed < runs; seed++) randomRun(seed);
        for (int seed = 0; seed < runs; seed++) roundsRun(1000000L + seed);
        System.out.println(2 * runs + " random runs answer as the model does");
    }
}

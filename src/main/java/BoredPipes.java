/**
 * Bored pipes: wind instruments drawn as bores with holes, all in whole numbers.
 * What each call promises stands in DOC.md; words of that document are used here as it uses them.
 */
public final class BoredPipes {
    public static final int NONE = -1, UNKNOWN = -1001, OUTSIDE = -1002, NOT = -1003, FULL = -1004;

    private static final int MOST_PIECES = 12, MOST_HOLES = 6, MOST_NOTES = 6;
    private static final int LAST_LENGTH = 400, LAST_BORE = 100, LAST_SIZE = 60, LAST_CHIMNEY = 60;
    private static final int LAST_PITCH = 300, LAST_SET = 63, LAST_WHICH = 5, LAST_REACH = 100;
    private static final int PLACE = 0, SIZE = 1, CHIMNEY = 2;
    private static final int TURNS = 65536, HALF_TURN = 32768, QUARTER_TURN = 16384;
    private static final long AT_FAR_END = 1048576, TOO_BIG = 1L << 40;
    private static final long ALL_DRILLS = ((1L << LAST_SIZE) - 1) << 1;
    private static final int MISS_WITHOUT_TONE = 300;
    // One more than the greatest SUM, so that a rank holds GREATEST and SUM, GREATEST first.
    private static final int SUMS = MOST_NOTES * MISS_WITHOUT_TONE + 1;
    // More than any rank.
    private static final int NO_BOUND = SUMS * SUMS;

    private final Pipe pipe = new Pipe();
    private final Shelf firstShelf = new Shelf();
    private final Shelf secondShelf = new Shelf();
    private final Stretches stretches = new Stretches();
    private final Notes notes = new Notes();
    private final Move best = new Move();
    private long drills = ALL_DRILLS;
    private int reach = 2;
    private int rounds = 0;

    public BoredPipes() {
    }

    // ---- the pipe

    public int piece(int length, int bore) {
        if (!isPiece(length, bore)) return OUTSIDE;
        if (pipe.pieces >= MOST_PIECES) return FULL;
        pipe.addPiece(length, bore);
        return pipe.wholeLength();
    }

    public int cone(int length, int from, int to, int n) {
        if (!isPiece(length, from) || !isPiece(length, to) || !within(n, 2, MOST_PIECES)) return OUTSIDE;
        if (pipe.pieces + n > MOST_PIECES) return FULL;
        for (int k = 0; k < n; k++) {
            pipe.addPiece(length, from + (int) quotient((to - from) * k, n - 1));
        }
        return pipe.wholeLength();
    }

    public int hole(int place, int size, int chimney) {
        if (!mayBe(PLACE, place) || !mayBe(SIZE, size) || !mayBe(CHIMNEY, chimney)) return OUTSIDE;
        if (pipe.holeAt(place) != NONE) return NOT;
        if (pipe.holes >= MOST_HOLES) return FULL;
        pipe.addHole(place, size, chimney);
        return pipe.holes - 1;
    }

    public int set(int hole, int what, int v) {
        if (!within(hole, 0, pipe.holes - 1)) return UNKNOWN;
        if (!mayBe(what, v)) return OUTSIDE;
        if (what == PLACE && v != at(pipe.places, hole) && pipe.holeAt(v) != NONE) return NOT;
        int old = pipe.ofHole(hole, what);
        pipe.changeHole(hole, what, v);
        return old;
    }

    public int end(int what, int v) {
        if (!within(what, 0, 1) || !within(v, 0, 1)) return OUTSIDE;
        int old = what == 0 ? pipe.mouth : pipe.farEnd;
        if (what == 0) {
            pipe.mouth = v;
        } else {
            pipe.farEnd = v;
        }
        return old;
    }

    public int clear() {
        int pieces = pipe.pieces;
        pipe.empty();
        notes.many = 0;
        rounds = 0;
        return pieces;
    }

    public int told(int piece, int what) {
        if (!within(piece, 0, pipe.pieces - 1)) return UNKNOWN;
        if (!within(what, 0, 1)) return OUTSIDE;
        return what == 0 ? at(pipe.lengths, piece) : at(pipe.bores, piece);
    }

    public int bored(int hole, int what) {
        if (!within(hole, 0, pipe.holes - 1)) return UNKNOWN;
        if (!within(what, 0, 4)) return OUTSIDE;
        if (what == 3) return pipe.pieceAt(at(pipe.places, hole));
        if (what == 4) return pipe.holesBefore(at(pipe.places, hole));
        return pipe.ofHole(hole, what);
    }

    public int count(int what) {
        switch (what) {
            case 0: return pipe.pieces;
            case 1: return pipe.holes;
            case 2: return notes.many;
            case 3: return pipe.wholeLength();
            case 4: return pipe.mouth;
            case 5: return pipe.farEnd;
            case 6: return reach;
            case 7: return Long.bitCount(drills);
            case 8: return rank(NO_BOUND) / SUMS;
            case 9: return rank(NO_BOUND) % SUMS;
            case 10: return rounds;
            default: return OUTSIDE;
        }
    }

    // ---- tones

    public int sine(int turn) {
        return within(turn, 0, TURNS - 1) ? (int) sineOf(turn) : OUTSIDE;
    }

    public long worth(int pitch, int open) {
        if (!within(pitch, 1, LAST_PITCH) || !within(open, 0, LAST_SET)) return OUTSIDE;
        if (pipe.pieces == 0) return NOT;
        stretches.cutUp(pipe);
        return stretches.worthOf(pitch, open);
    }

    public int tone(int open, int i) {
        if (!within(open, 0, LAST_SET) || i < NONE) return OUTSIDE;
        if (pipe.pieces == 0) return NOT;
        stretches.cutUp(pipe);
        return stretches.findTone(open, i);
    }

    public int nearest(int pitch, int what) {
        if (!within(pitch, 1, LAST_PITCH) || !within(what, 0, 1)) return OUTSIDE;
        if (pipe.pieces == 0) return NOT;
        stretches.cutUp(pipe);
        int bestSet = NONE;
        int bestTone = NONE;
        for (int open = 0; open < 1 << pipe.holes; open++) {
            int found = stretches.findTone(open, 0);
            if (missOf(found, pitch) < missOf(bestTone, pitch)) {
                bestSet = open;
                bestTone = found;
            }
        }
        return what == 0 ? bestSet : bestTone;
    }

    // ---- notes, rounds

    public int note(int open, int which, int wanted) {
        if (!within(open, 0, LAST_SET) || !within(which, 0, LAST_WHICH) || !within(wanted, 1, LAST_PITCH)) return OUTSIDE;
        if (notes.many >= MOST_NOTES) return FULL;
        notes.add(open, which, wanted);
        return notes.many - 1;
    }

    public int noted(int note, int what) {
        if (!within(note, 0, notes.many - 1)) return UNKNOWN;
        switch (what) {
            case 0: return at(notes.sets, note);
            case 1: return at(notes.whiches, note);
            case 2: return at(notes.wanted, note);
            case 3: return toneNow(note);
            case 4: return missOf(toneNow(note), at(notes.wanted, note));
            default: return OUTSIDE;
        }
    }

    public int drill(int s, boolean has) {
        if (!within(s, 1, LAST_SIZE)) return OUTSIDE;
        long bit = 1L << s;
        drills = has ? drills | bit : drills & ~bit;
        return Long.bitCount(drills);
    }

    public int reach(int v) {
        if (!within(v, 1, LAST_REACH)) return OUTSIDE;
        int old = reach;
        reach = v;
        return old;
    }

    public int round() {
        if (pipe.pieces == 0 || pipe.holes == 0 || notes.many == 0) return NOT;
        best.none(rank(NO_BOUND));
        for (int h = 0; h < pipe.holes; h++) {
            tryMove(h, PLACE, placeMoved(h, 1));
            tryMove(h, PLACE, placeMoved(h, -1));
            tryMove(h, SIZE, nextSize(h, 1));
            tryMove(h, SIZE, nextSize(h, -1));
        }
        if (best.hole == NONE) return 0;
        pipe.changeHole(best.hole, best.what, best.value);
        rounds++;
        return 1;
    }

    // ---- shelves

    public int keep(int s) {
        if (!within(s, 0, 1)) return UNKNOWN;
        Shelf shelf = shelfOf(s);
        shelf.kept.copy(pipe);
        shelf.used = true;
        return 1;
    }

    public int back(int s) {
        if (!within(s, 0, 1)) return UNKNOWN;
        Shelf shelf = shelfOf(s);
        if (!shelf.used) return NOT;
        pipe.copy(shelf.kept);
        return 1;
    }

    public int differs(int s) {
        if (!within(s, 0, 1)) return UNKNOWN;
        Shelf shelf = shelfOf(s);
        if (!shelf.used) return NOT;
        return pipe.differences(shelf.kept);
    }

    private Shelf shelfOf(int s) {
        return s == 0 ? firstShelf : secondShelf;
    }

    // ---- what may be

    private static boolean within(int v, int least, int most) {
        return v >= least && v <= most;
    }

    private static boolean isPiece(int length, int bore) {
        return within(length, 1, LAST_LENGTH) && within(bore, 1, LAST_BORE);
    }

    private boolean mayBe(int what, int v) {
        switch (what) {
            case PLACE: return within(v, 1, pipe.wholeLength() - 1);
            case SIZE: return within(v, 1, LAST_SIZE);
            case CHIMNEY: return within(v, 0, LAST_CHIMNEY);
            default: return false;
        }
    }

    // ---- misses

    private int toneNow(int note) {
        stretches.cutUp(pipe);
        return stretches.findTone(at(notes.sets, note), at(notes.whiches, note));
    }

    private static int missOf(int tone, int wanted) {
        return tone == NONE ? MISS_WITHOUT_TONE : Math.abs(tone - wanted);
    }

    /**
     * GREATEST and SUM as one number that is less when the pipe is better. It only rises from note
     * to note, so what has come up to the bound is not looked at further.
     */
    private int rank(int bound) {
        stretches.cutUp(pipe);
        int greatest = 0;
        int sum = 0;
        for (int n = 0; n < notes.many && greatest * SUMS + sum < bound; n++) {
            int tone = stretches.findTone(at(notes.sets, n), at(notes.whiches, n));
            int miss = missOf(tone, at(notes.wanted, n));
            greatest = Math.max(greatest, miss);
            sum += miss;
        }
        return greatest * SUMS + sum;
    }

    // ---- moves

    private void tryMove(int hole, int what, int v) {
        if (v == NONE) return;
        int old = pipe.ofHole(hole, what);
        pipe.changeHole(hole, what, v);
        int rank = rank(best.rank);
        pipe.changeHole(hole, what, old);
        if (rank < best.rank) best.take(rank, hole, what, v);
    }

    /** Only the next hole on the side it moves to comes nearer, so that gap alone is looked at. */
    private int placeMoved(int hole, int step) {
        int v = at(pipe.places, hole) + step;
        if (!mayBe(PLACE, v) || pipe.holeAt(v) != NONE) return NONE;
        return pipe.gap(hole, step) == reach ? NONE : v;
    }

    private int nextSize(int hole, int step) {
        int size = at(pipe.sizes, hole);
        for (int further = 1; further < LAST_SIZE; further++) {
            int s = size + further * step;
            if (within(s, 1, LAST_SIZE) && (drills >> s & 1) == 1) return s;
        }
        return NONE;
    }

    // ---- numbers

    private static long quotient(long a, long b) {
        return b == 0 ? 0 : a / b;
    }

    private static long sineOf(int turn) {
        long x = turn & HALF_TURN - 1;
        long p = x * (HALF_TURN - x);
        long size = quotient(131068 * p, 1342177280 - p);
        return (turn & HALF_TURN) == 0 ? size : -size;
    }

    private static int at(int[] row, int i) {
        return i >= 0 && i < row.length ? row[i] : 0;
    }

    private static void put(int[] row, int i, int v) {
        if (i >= 0 && i < row.length) row[i] = v;
    }

    private static void copyRow(int[] from, int[] to) {
        for (int i = 0; i < from.length; i++) {
            put(to, i, at(from, i));
        }
    }

    /** How many numbers differ in two rows; each one that only the longer row has does. */
    private static int rowDifferences(int[] a, int inA, int[] b, int inB) {
        int both = Math.min(inA, inB);
        int differing = Math.max(inA, inB) - both;
        for (int i = 0; i < both; i++) {
            if (at(a, i) != at(b, i)) differing++;
        }
        return differing;
    }

    /** Pieces from the mouth on, holes by their numbers, and what both ends are. */
    private static final class Pipe {
        final int[] lengths = new int[MOST_PIECES];
        final int[] bores = new int[MOST_PIECES];
        final int[] places = new int[MOST_HOLES];
        final int[] sizes = new int[MOST_HOLES];
        final int[] chimneys = new int[MOST_HOLES];
        int pieces = 0;
        int holes = 0;
        int mouth = 0;
        int farEnd = 0;

        void empty() {
            pieces = 0;
            holes = 0;
            mouth = 0;
            farEnd = 0;
        }

        void addPiece(int length, int bore) {
            put(lengths, pieces, length);
            put(bores, pieces, bore);
            pieces++;
        }

        void addHole(int place, int size, int chimney) {
            put(places, holes, place);
            put(sizes, holes, size);
            put(chimneys, holes, chimney);
            holes++;
        }

        int[] rowOf(int what) {
            return what == PLACE ? places : what == SIZE ? sizes : chimneys;
        }

        int ofHole(int h, int what) {
            return at(rowOf(what), h);
        }

        void changeHole(int h, int what, int v) {
            put(rowOf(what), h, v);
        }

        /** Where a piece begins: its distance from the mouth. */
        int startOf(int piece) {
            int start = 0;
            for (int k = 0; k < piece; k++) {
                start += at(lengths, k);
            }
            return start;
        }

        int wholeLength() {
            return startOf(pieces);
        }

        int pieceAt(int place) {
            int end = 0;
            for (int k = 0; k < pieces; k++) {
                end += at(lengths, k);
                if (place <= end) return k;
            }
            return NONE;
        }

        int holeAt(int place) {
            for (int h = 0; h < holes; h++) {
                if (at(places, h) == place) return h;
            }
            return NONE;
        }

        int holesBefore(int place) {
            int nearer = 0;
            for (int h = 0; h < holes; h++) {
                if (at(places, h) < place) nearer++;
            }
            return nearer;
        }

        /** The place of the last hole before a place, 0 (the mouth) without one. */
        int lastHoleBefore(int place) {
            int last = 0;
            for (int h = 0; h < holes; h++) {
                if (at(places, h) < place) last = Math.max(last, at(places, h));
            }
            return last;
        }

        /** How far the next hole is that way (step 1 or -1); 0 without one. */
        int gap(int hole, int step) {
            int least = 0;
            for (int h = 0; h < holes; h++) {
                int apart = (at(places, h) - at(places, hole)) * step;
                if (apart > 0 && (least == 0 || apart < least)) least = apart;
            }
            return least;
        }

        void copy(Pipe from) {
            copyRow(from.lengths, lengths);
            copyRow(from.bores, bores);
            copyRow(from.places, places);
            copyRow(from.sizes, sizes);
            copyRow(from.chimneys, chimneys);
            pieces = from.pieces;
            holes = from.holes;
            mouth = from.mouth;
            farEnd = from.farEnd;
        }

        int differences(Pipe other) {
            return rowDifferences(lengths, pieces, other.lengths, other.pieces)
                + rowDifferences(bores, pieces, other.bores, other.pieces)
                + rowDifferences(places, holes, other.places, other.holes)
                + rowDifferences(sizes, holes, other.sizes, other.holes)
                + rowDifferences(chimneys, holes, other.chimneys, other.holes)
                + (mouth == other.mouth ? 0 : 1)
                + (farEnd == other.farEnd ? 0 : 1);
        }
    }

    private static final class Shelf {
        final Pipe kept = new Pipe();
        boolean used = false;
    }

    private static final class Notes {
        final int[] sets = new int[MOST_NOTES];
        final int[] whiches = new int[MOST_NOTES];
        final int[] wanted = new int[MOST_NOTES];
        int many = 0;

        void add(int open, int which, int pitch) {
            put(sets, many, open);
            put(whiches, many, which);
            put(wanted, many, pitch);
            many++;
        }
    }

    /** The best move of a round as far as it has been looked for; hole NONE: none is better. */
    private static final class Move {
        int rank = 0;
        int hole = NONE;
        int what = PLACE;
        int value = 0;

        void none(int rankNow) {
            rank = rankNow;
            hole = NONE;
        }

        void take(int newRank, int h, int w, int v) {
            rank = newRank;
            hole = h;
            what = w;
            value = v;
        }
    }

    /**
     * The stretches of a pipe from its far end to its mouth, each with the hole at its nearer end.
     * They are the same for every pitch, so they are cut once for all the worths of a search.
     */
    private static final class Stretches {
        private static final int MOST = MOST_PIECES + MOST_HOLES;

        final int[] lengths = new int[MOST];
        final int[] bores = new int[MOST];
        final int[] holes = new int[MOST];
        final int[] sizes = new int[MOST];
        final int[] chimneys = new int[MOST];
        int many = 0;
        boolean shut = false;
        boolean reed = false;

        void cutUp(Pipe pipe) {
            many = 0;
            shut = pipe.farEnd == 1;
            reed = pipe.mouth == 1;
            int from = pipe.wholeLength();
            for (int i = 0; i < MOST && from > 0; i++) {
                int piece = pipe.pieceAt(from);
                int to = Math.max(pipe.startOf(piece), pipe.lastHoleBefore(from));
                int hole = pipe.holeAt(to);
                put(lengths, i, from - to);
                put(bores, i, at(pipe.bores, piece));
                put(holes, i, hole);
                put(sizes, i, at(pipe.sizes, hole));
                put(chimneys, i, at(pipe.chimneys, hole));
                many++;
                from = to;
            }
        }

        long worthOf(int pitch, int open) {
            long p = shut ? AT_FAR_END : 0;
            long u = shut ? 0 : AT_FAR_END;
            for (int i = 0; i < many; i++) {
                int turn = pitch * at(lengths, i) * 16 & TURNS - 1;
                long s = sineOf(turn);
                long c = sineOf(turn + QUARTER_TURN & TURNS - 1);
                long square = at(bores, i) * at(bores, i);
                long pNext = (p * c >> 15) + quotient((u * s >> 15) * 10000, square);
                long uNext = (u * c >> 15) - (p * s >> 15) * square / 10000;
                int shift = shiftFor(pNext, uNext);
                p = pNext >> shift;
                u = uNext >> shift;
                if (isOpen(i, open)) {
                    long size = at(sizes, i);
                    u += quotient(p * (size * size), 25 * (size + at(chimneys, i)) * pitch);
                }
            }
            return reed ? u : p;
        }

        private boolean isOpen(int i, int open) {
            int hole = at(holes, i);
            return hole != NONE && (open >> hole & 1) == 1;
        }

        /** By eights, till neither number is 2^40 or more in size. */
        private static int shiftFor(long p, long u) {
            int shift = 0;
            while (shift < 56 && (isTooBig(p >> shift) || isTooBig(u >> shift))) {
                shift += 8;
            }
            return shift;
        }

        private static boolean isTooBig(long v) {
            return v >= TOO_BIG || v <= -TOO_BIG;
        }

        /** Tone i of a set; how many tones it has, if i is NONE. A pipe without pieces has none. */
        int findTone(int open, int i) {
            int seen = 0;
            boolean above = worthOf(1, open) > 0;
            for (int pitch = 1; pitch < LAST_PITCH; pitch++) {
                boolean aboveNext = worthOf(pitch + 1, open) > 0;
                if (above != aboveNext) {
                    if (seen == i) return pitch;
                    seen++;
                }
                above = aboveNext;
            }
            return i == NONE ? seen : NONE;
        }
    }
}

/**
 * Each promise of the document by itself: ordinary calls, its edges, its refusals in their order, and
 * that what is refused changes nothing. The answers due were worked out from the document's words.
 */
public final class PromisesTest {
    private static final int NONE = -1, UNKNOWN = -1001, OUTSIDE = -1002, NOT = -1003, FULL = -1004;
    private static final int LOW = Integer.MIN_VALUE, HIGH = Integer.MAX_VALUE;

    private static String promise = "";
    private static int checks = 0;
    private static int wrong = 0;

    private static void due(String what, long got, long due) {
        checks++;
        if (got == due) return;
        wrong++;
        System.out.println(promise + ": " + what + " answered " + got + ", due is " + due);
    }

    private static void counts(BoredPipes x, long... due) {
        for (int i = 0; i < due.length; i++) due("count(" + i + ")", x.count(i), due[i]);
    }

    /** Two pieces, two holes, two notes, a reed, a shut end: something for refusals to leave alone. */
    private static BoredPipes flute() {
        BoredPipes x = new BoredPipes();
        x.piece(60, 14);
        x.piece(40, 20);
        x.hole(30, 6, 3);
        x.hole(60, 8, 4);
        x.end(0, 1);
        x.end(1, 1);
        x.note(0, 0, 20);
        x.note(3, 0, 30);
        x.keep(0);
        return x;
    }

    /** All that a refused call on flute() may not have changed. */
    private static void unchanged(BoredPipes x) {
        counts(x, 2, 2, 2, 100, 1, 1, 2, 60, x.count(8), x.count(9), 0);
        due("differs", x.differs(0), 0);
        due("told", x.told(1, 1), 20);
        due("bored place", x.bored(1, 0), 60);
        due("bored size", x.bored(1, 1), 8);
        due("bored chimney", x.bored(1, 2), 4);
        due("noted set", x.noted(1, 0), 3);
        due("noted wanted", x.noted(1, 2), 30);
        due("shelf 1", x.back(1), NOT);
    }

    private static void newObject() {
        promise = "1 a new object";
        BoredPipes x = new BoredPipes();
        counts(x, 0, 0, 0, 0, 0, 0, 2, 60, 0, 0, 0);
        due("told", x.told(0, 0), UNKNOWN);
        due("bored", x.bored(0, 0), UNKNOWN);
        due("noted", x.noted(0, 0), UNKNOWN);
        due("back 0", x.back(0), NOT);
        due("back 1", x.back(1), NOT);
        due("differs 0", x.differs(0), NOT);
        due("worth", x.worth(1, 0), NOT);
        BoredPipes other = new BoredPipes();
        other.piece(10, 10);
        other.drill(4, false);
        other.reach(9);
        counts(x, 0, 0, 0, 0, 0, 0, 2, 60, 0, 0, 0);
    }

    private static void piece() {
        promise = "2 piece";
        BoredPipes x = new BoredPipes();
        due("first", x.piece(400, 100), 400);
        due("second", x.piece(1, 1), 401);
        due("told", x.told(0, 0), 400);
        due("told", x.told(0, 1), 100);
        due("told", x.told(1, 0), 1);
        due("told", x.told(1, 1), 1);
        int[][] outside = {{0, 1}, {401, 1}, {1, 0}, {1, 101}, {LOW, 5}, {HIGH, 5}, {5, LOW}, {5, HIGH}, {-1, -1}};
        for (int[] o : outside) due("outside", x.piece(o[0], o[1]), OUTSIDE);
        counts(x, 2, 0, 0, 401);
        for (int k = 3; k <= 12; k++) due("more", x.piece(10, k), 401 + 10 * (k - 2));
        due("thirteenth", x.piece(10, 10), FULL);
        due("outside before full", x.piece(401, 10), OUTSIDE);
        counts(x, 12, 0, 0, 501);
        due("last", x.told(11, 1), 12);
        BoredPipes y = flute();
        due("outside", y.piece(10, 0), OUTSIDE);
        unchanged(y);
    }

    private static void cone() {
        promise = "3 cone";
        BoredPipes x = new BoredPipes();
        due("down", x.cone(10, 40, 12, 4), 40);
        int[] down = {40, 31, 22, 12};
        for (int k = 0; k < 4; k++) due("bore " + k, x.told(k, 1), down[k]);
        due("two", x.cone(1, 1, 100, 2), 42);
        due("bore", x.told(4, 1), 1);
        due("bore", x.told(5, 1), 100);
        due("length", x.told(5, 0), 1);
        int[][] outside = {{0, 1, 1, 2}, {401, 1, 1, 2}, {1, 0, 1, 2}, {1, 101, 1, 2}, {1, 1, 0, 2}, {1, 1, 101, 2},
            {1, 1, 1, 1}, {1, 1, 1, 13}, {1, 1, 1, 0}, {1, 1, 1, LOW}, {1, 1, 1, HIGH}, {LOW, 1, 1, 2}, {1, LOW, HIGH, 2}};
        for (int[] o : outside) due("outside", x.cone(o[0], o[1], o[2], o[3]), OUTSIDE);
        due("no room for 7", x.cone(10, 5, 6, 7), FULL);
        due("outside before full", x.cone(10, 5, 101, 12), OUTSIDE);
        counts(x, 6, 0, 0, 42);
        due("room for 6", x.cone(400, 7, 7, 6), 2442);
        due("level", x.told(11, 1), 7);
        due("full", x.cone(1, 1, 1, 2), FULL);
        BoredPipes y = new BoredPipes();
        due("twelve", y.cone(400, 1, 100, 12), 4800);
        for (int k = 0; k < 12; k++) due("bore " + k, y.told(k, 1), 1 + 9 * k);
        BoredPipes z = new BoredPipes();
        due("up", z.cone(3, 5, 7, 4), 12);
        int[] up = {5, 5, 6, 7};
        for (int k = 0; k < 4; k++) due("bore " + k, z.told(k, 1), up[k]);
    }

    private static void hole() {
        promise = "4 hole";
        BoredPipes x = new BoredPipes();
        due("without pieces", x.hole(1, 1, 1), OUTSIDE);
        x.piece(1, 10);
        due("no place in a length of 1", x.hole(1, 1, 1), OUTSIDE);
        x.piece(99, 10);
        due("first", x.hole(1, 1, 0), 0);
        due("second", x.hole(99, 60, 60), 1);
        int[][] outside = {{0, 1, 1}, {100, 1, 1}, {5, 0, 1}, {5, 61, 1}, {5, 1, -1}, {5, 1, 61}, {LOW, 1, 1},
            {HIGH, 1, 1}, {5, HIGH, 1}, {5, 1, LOW}, {1, 61, 1}};
        for (int[] o : outside) due("outside", x.hole(o[0], o[1], o[2]), OUTSIDE);
        due("taken", x.hole(1, 5, 5), NOT);
        counts(x, 2, 2);
        due("size as it was", x.bored(0, 1), 1);
        for (int k = 2; k < 6; k++) due("more", x.hole(10 * k, k, k), k);
        due("taken before full", x.hole(20, 5, 5), NOT);
        due("full", x.hole(21, 5, 5), FULL);
        due("outside before full", x.hole(21, 0, 5), OUTSIDE);
        counts(x, 2, 6);
        due("place", x.bored(1, 0), 99);
        due("size", x.bored(1, 1), 60);
        due("chimney", x.bored(1, 2), 60);
        due("at a piece's end", flute().bored(1, 0), 60);
        BoredPipes y = flute();
        due("taken", y.hole(60, 1, 1), NOT);
        due("outside", y.hole(100, 1, 1), OUTSIDE);
        unchanged(y);
    }

    private static void set() {
        promise = "5 set";
        BoredPipes x = flute();
        int[][] unknown = {{2, 0, 5}, {-1, 0, 5}, {HIGH, 0, 5}, {LOW, 0, 5}, {2, 9, 0}};
        for (int[] u : unknown) due("unknown", x.set(u[0], u[1], u[2]), UNKNOWN);
        int[][] outside = {{0, -1, 5}, {0, 3, 5}, {0, 4, 5}, {0, LOW, 5}, {0, 0, 0}, {0, 0, 100}, {0, 1, 0}, {0, 1, 61},
            {0, 2, -1}, {0, 2, 61}, {0, 0, HIGH}, {1, 3, 60}};
        for (int[] o : outside) due("outside", x.set(o[0], o[1], o[2]), OUTSIDE);
        due("taken", x.set(0, 0, 60), NOT);
        due("taken", x.set(1, 0, 30), NOT);
        unchanged(x);
        due("its own place", x.set(1, 0, 60), 60);
        due("a size like the other's place", x.set(0, 1, 60), 6);
        due("a chimney like the other's place", x.set(0, 2, 60), 3);
        due("last place", x.set(0, 0, 99), 30);
        due("first place", x.set(0, 0, 1), 99);
        due("least size", x.set(0, 1, 1), 60);
        due("least chimney", x.set(0, 2, 0), 60);
        due("place", x.bored(0, 0), 1);
        due("size", x.bored(0, 1), 1);
        due("chimney", x.bored(0, 2), 0);
        due("the other", x.bored(1, 0), 60);
        due("nearer than REACH", x.set(0, 0, 59), 1);
        due("unknown without holes", new BoredPipes().set(0, 0, 0), UNKNOWN);
    }

    private static void end() {
        promise = "6 end";
        BoredPipes x = new BoredPipes();
        due("mouth", x.end(0, 1), 0);
        counts(x, 0, 0, 0, 0, 1, 0);
        due("far end", x.end(1, 1), 0);
        counts(x, 0, 0, 0, 0, 1, 1);
        due("mouth again", x.end(0, 1), 1);
        due("mouth back", x.end(0, 0), 1);
        counts(x, 0, 0, 0, 0, 0, 1);
        due("far end back", x.end(1, 0), 1);
        BoredPipes y = flute();
        int[][] outside = {{-1, 0}, {2, 0}, {0, -1}, {0, 2}, {1, 2}, {1, -1}, {LOW, 0}, {0, HIGH}};
        for (int[] o : outside) due("outside", y.end(o[0], o[1]), OUTSIDE);
        unchanged(y);
        BoredPipes z = new BoredPipes();
        z.piece(100, 20);
        due("open, open", z.tone(0, 0), 20);
        z.end(1, 1);
        due("open, shut", z.tone(0, 0), 10);
        z.end(0, 1);
        due("reed, shut", z.tone(0, 0), 20);
        z.end(1, 0);
        due("reed, open", z.tone(0, 0), 10);
    }

    private static void clear() {
        promise = "7 clear";
        BoredPipes x = flute();
        x.drill(4, false);
        x.drill(5, false);
        x.reach(7);
        int i = 0;
        while (i < 9 && x.round() == 1) i++;
        due("a round did something", x.count(10) > 0 ? 1 : 0, 1);
        due("pieces", x.clear(), 2);
        counts(x, 0, 0, 0, 0, 0, 0, 7, 58, 0, 0, 0);
        due("told", x.told(0, 0), UNKNOWN);
        due("bored", x.bored(0, 0), UNKNOWN);
        due("noted", x.noted(0, 0), UNKNOWN);
        due("again", x.clear(), 0);
        due("shelf", x.back(0), 1);
        counts(x, 2, 2, 0, 100, 1, 1, 7, 58);
        due("new", new BoredPipes().clear(), 0);
        BoredPipes y = new BoredPipes();
        y.piece(10, 10);
        due("shelf still empty", y.clear(), 1);
        due("shelf still empty", y.back(0), NOT);
        due("room again", y.cone(1, 1, 1, 12), 12);
    }

    private static void told() {
        promise = "8 told";
        BoredPipes x = flute();
        due("length", x.told(0, 0), 60);
        due("bore", x.told(0, 1), 14);
        due("length", x.told(1, 0), 40);
        due("bore", x.told(1, 1), 20);
        due("unknown", x.told(2, 0), UNKNOWN);
        due("unknown", x.told(-1, 0), UNKNOWN);
        due("unknown", x.told(LOW, 0), UNKNOWN);
        due("unknown", x.told(HIGH, 1), UNKNOWN);
        due("unknown before outside", x.told(2, 2), UNKNOWN);
        due("outside", x.told(1, 2), OUTSIDE);
        due("outside", x.told(1, -1), OUTSIDE);
        due("outside", x.told(1, LOW), OUTSIDE);
        unchanged(x);
    }

    private static void bored() {
        promise = "9 bored";
        BoredPipes x = new BoredPipes();
        x.piece(10, 10);
        x.piece(5, 10);
        x.piece(20, 10);
        int[] places = {15, 10, 11, 16, 34, 9};
        int[] pieces = {1, 0, 1, 2, 2, 0};
        int[] before = {3, 1, 2, 4, 5, 0};
        for (int h = 0; h < 6; h++) x.hole(places[h], 10 + h, 20 + h);
        for (int h = 0; h < 6; h++) {
            due("place", x.bored(h, 0), places[h]);
            due("size", x.bored(h, 1), 10 + h);
            due("chimney", x.bored(h, 2), 20 + h);
            due("piece of the hole at " + places[h], x.bored(h, 3), pieces[h]);
            due("nearer than " + places[h], x.bored(h, 4), before[h]);
        }
        due("unknown", x.bored(6, 0), UNKNOWN);
        due("unknown", x.bored(-1, 0), UNKNOWN);
        due("unknown before outside", x.bored(HIGH, 5), UNKNOWN);
        due("outside", x.bored(0, 5), OUTSIDE);
        due("outside", x.bored(0, -1), OUTSIDE);
        due("outside", x.bored(0, HIGH), OUTSIDE);
    }

    private static void count() {
        promise = "10 count";
        BoredPipes x = flute();
        due("outside", x.count(-1), OUTSIDE);
        due("outside", x.count(11), OUTSIDE);
        due("outside", x.count(LOW), OUTSIDE);
        due("outside", x.count(HIGH), OUTSIDE);
        unchanged(x);
        int a = x.noted(0, 4);
        int b = x.noted(1, 4);
        due("greatest", x.count(8), Math.max(a, b));
        due("sum", x.count(9), a + b);
        BoredPipes y = new BoredPipes();
        y.note(0, 0, 1);
        due("greatest of a note without a tone", y.count(8), 300);
        for (int k = 1; k < 6; k++) y.note(0, k, 300);
        due("greatest", y.count(8), 300);
        due("sum of six without tones", y.count(9), 1800);
        counts(y, 0, 0, 6, 0, 0, 0, 2, 60, 300, 1800, 0);
        due("no round", y.round(), NOT);
        due("rounds", y.count(10), 0);
    }

    private static void sine() {
        promise = "11 sine";
        BoredPipes x = new BoredPipes();
        int[][] due = {{0, 0}, {1, 3}, {2, 6}, {8192, 23129}, {16383, 32766}, {16384, 32767}, {16385, 32766}, {24576, 23129},
            {32767, 3}, {32768, 0}, {32769, -3}, {40960, -23129}, {49152, -32767}, {65535, -3}};
        for (int[] d : due) due("sine(" + d[0] + ")", x.sine(d[0]), d[1]);
        int[] outside = {-1, 65536, LOW, HIGH};
        for (int t : outside) due("outside", x.sine(t), OUTSIDE);
    }

    private static void worth() {
        promise = "12 worth";
        BoredPipes x = new BoredPipes();
        due("no pieces", x.worth(1, 0), NOT);
        due("outside before not", x.worth(0, 0), OUTSIDE);
        due("outside before not", x.worth(1, 64), OUTSIDE);
        // f 32 and l 32 make a quarter turn: S 32767, C 0.
        x.piece(32, 10);
        due("a quarter turn", x.worth(32, 0), (1048576L * 32767 >> 15) * 10000 / 100);
        x.end(0, 1);
        due("a quarter turn at a reed", x.worth(32, 0), 0);
        x.end(1, 1);
        due("a quarter turn from a shut end", x.worth(32, 0), -((1048576L * 32767 >> 15) * 100 / 10000));
        x.end(0, 0);
        due("a quarter turn to an open mouth", x.worth(32, 0), 0);
        due("bits of holes that there are not", x.worth(31, 63), x.worth(31, 0));
        due("outside", x.worth(0, 0), OUTSIDE);
        due("outside", x.worth(301, 0), OUTSIDE);
        due("outside", x.worth(1, -1), OUTSIDE);
        due("outside", x.worth(1, 64), OUTSIDE);
        due("outside", x.worth(LOW, HIGH), OUTSIDE);
        BoredPipes y = new BoredPipes();
        // f 32 and l 64 make half a turn: S 0, C -32767, so the hole's part alone is left of U at the reed.
        y.piece(64, 10);
        y.piece(64, 10);
        y.end(0, 1);
        y.end(1, 1);
        long p = 1048576L * -32767 >> 15;
        due("two half turns", y.worth(32, 0), 0);
        y.hole(64, 20, 5);
        due("shut", y.worth(32, 0), 0);
        due("open", y.worth(32, 1), p * 400 / (25L * 25 * 32) * -32767 >> 15);
        due("shut, though another bit is set", y.worth(32, 62), 0);
        y.set(0, 2, 0);
        due("no chimney", y.worth(32, 1), p * 400 / (25L * 20 * 32) * -32767 >> 15);
        BoredPipes z = new BoredPipes();
        for (int k = 0; k < 12; k++) z.piece(33 + k, k % 2 == 0 ? 1 : 100);
        boolean small = true;
        for (int f = 1; f <= 300; f++) small = small && Math.abs(z.worth(f, 0)) < 1L << 40;
        due("always less than 2^40", small ? 1 : 0, 1);
        int[] atPlaces = {200, 10, 50, 120, 400, 300};
        for (int k = 0; k < 6; k++) z.hole(atPlaces[k], 20 + k, k);
        due("twelve pieces and six holes", z.worth(77, 63), 7960632641L);
    }

    private static void tone() {
        promise = "13 tone";
        BoredPipes x = new BoredPipes();
        due("no pieces", x.tone(0, 0), NOT);
        due("no pieces", x.tone(63, NONE), NOT);
        due("outside before not", x.tone(64, 0), OUTSIDE);
        due("outside before not", x.tone(0, -2), OUTSIDE);
        x.piece(100, 20);
        int many = 0;
        boolean above = x.worth(1, 0) > 0;
        for (int f = 1; f < 300; f++) {
            boolean aboveNext = x.worth(f + 1, 0) > 0;
            if (above != aboveNext) {
                due("tone " + many, x.tone(0, many), f);
                many++;
            }
            above = aboveNext;
        }
        due("how many", x.tone(0, NONE), many);
        due("behind the last", x.tone(0, many), NONE);
        due("far behind", x.tone(0, HIGH), NONE);
        due("bits of holes that there are not", x.tone(63, 1), x.tone(0, 1));
        int[][] outside = {{-1, 0}, {64, 0}, {0, -2}, {0, LOW}, {LOW, 0}, {HIGH, 0}};
        for (int[] o : outside) due("outside", x.tone(o[0], o[1]), OUTSIDE);
        BoredPipes y = new BoredPipes();
        y.piece(1, 50);
        due("none in so short a pipe", y.tone(0, NONE), 0);
        due("none in so short a pipe", y.tone(0, 0), NONE);
        // A worth of 0 is not above 0: shut and with a reed, it is less than 0 up to half a turn.
        BoredPipes z = new BoredPipes();
        z.piece(64, 10);
        z.end(0, 1);
        z.end(1, 1);
        due("worth 0 at half a turn", z.worth(32, 0), 0);
        due("not above from the first on, above behind 0", z.tone(0, 0), 32);
        due("above till a whole turn", z.tone(0, 1), 63);
    }

    private static void nearest() {
        promise = "14 nearest";
        BoredPipes x = new BoredPipes();
        due("no pieces", x.nearest(1, 0), NOT);
        due("outside before not", x.nearest(0, 0), OUTSIDE);
        due("outside before not", x.nearest(1, 2), OUTSIDE);
        x.piece(1, 50);
        due("no tone", x.nearest(100, 0), NONE);
        due("no tone", x.nearest(100, 1), NONE);
        x.clear();
        x.piece(200, 15);
        due("no holes", x.nearest(300, 0), 0);
        due("no holes", x.nearest(300, 1), 10);
        x.hole(150, 8, 4);
        x.hole(120, 8, 4);
        int[] tones = new int[4];
        for (int open = 0; open < 4; open++) tones[open] = x.tone(open, 0);
        for (int pitch = 1; pitch <= 300; pitch += 7) {
            int set = 0;
            for (int open = 1; open < 4; open++) {
                if (Math.abs(tones[open] - pitch) < Math.abs(tones[set] - pitch)) set = open;
            }
            due("set", x.nearest(pitch, 0), set);
            due("tone", x.nearest(pitch, 1), tones[set]);
        }
        // Holes too small to move any tone: all sets are like good.
        BoredPipes y = new BoredPipes();
        y.piece(200, 100);
        y.hole(5, 1, 60);
        y.hole(6, 1, 60);
        due("like tones", y.tone(3, 0), y.tone(0, 0));
        due("of like ones the least", y.nearest(12, 0), 0);
        int[][] outside = {{0, 0}, {301, 0}, {1, -1}, {1, 2}, {LOW, 0}, {HIGH, 1}, {5, HIGH}};
        for (int[] o : outside) due("outside", y.nearest(o[0], o[1]), OUTSIDE);
    }

    private static void note() {
        promise = "15 note";
        BoredPipes x = new BoredPipes();
        due("without pieces", x.note(63, 5, 300), 0);
        due("least", x.note(0, 0, 1), 1);
        int[][] outside = {{-1, 0, 1}, {64, 0, 1}, {0, -1, 1}, {0, 6, 1}, {0, 0, 0}, {0, 0, 301}, {LOW, 0, 1}, {0, HIGH, 1},
            {0, 0, LOW}};
        for (int[] o : outside) due("outside", x.note(o[0], o[1], o[2]), OUTSIDE);
        counts(x, 0, 0, 2);
        for (int k = 2; k < 6; k++) due("more", x.note(k, k - 1, 10 * k), k);
        due("seventh", x.note(0, 0, 1), FULL);
        due("outside before full", x.note(64, 0, 1), OUTSIDE);
        counts(x, 0, 0, 6);
        for (int k = 2; k < 6; k++) {
            due("set", x.noted(k, 0), k);
            due("which", x.noted(k, 1), k - 1);
            due("wanted", x.noted(k, 2), 10 * k);
        }
        BoredPipes y = flute();
        due("outside", y.note(0, 6, 1), OUTSIDE);
        unchanged(y);
    }

    private static void noted() {
        promise = "16 noted";
        BoredPipes x = new BoredPipes();
        due("unknown", x.noted(0, 0), UNKNOWN);
        x.note(63, 1, 45);
        int[] without = {63, 1, 45, NONE, 300};
        for (int w = 0; w < 5; w++) due("without pieces " + w, x.noted(0, w), without[w]);
        x.piece(100, 20);
        int[] with = {63, 1, 45, 40, 5};
        for (int w = 0; w < 5; w++) due("with a piece " + w, x.noted(0, w), with[w]);
        x.note(0, 0, 1);
        due("tone above the wanted one", x.noted(1, 4), 19);
        x.clear();
        x.piece(1, 50);
        x.note(0, 0, 300);
        due("no tone", x.noted(0, 3), NONE);
        due("miss without a tone", x.noted(0, 4), 300);
        int[] unknown = {1, -1, 5, 6, LOW, HIGH};
        for (int u : unknown) due("unknown", x.noted(u, 0), UNKNOWN);
        due("unknown before outside", x.noted(1, 5), UNKNOWN);
        int[] outside = {-1, 5, LOW, HIGH};
        for (int o : outside) due("outside", x.noted(0, o), OUTSIDE);
    }

    private static void drill() {
        promise = "17 drill";
        BoredPipes x = new BoredPipes();
        due("there already", x.drill(1, true), 60);
        due("out", x.drill(1, false), 59);
        due("out already", x.drill(1, false), 59);
        due("last out", x.drill(60, false), 58);
        due("last in", x.drill(60, true), 59);
        int[] outside = {0, 61, -1, 64, 65, LOW, HIGH};
        for (int o : outside) {
            due("outside", x.drill(o, false), OUTSIDE);
            due("outside", x.drill(o, true), OUTSIDE);
        }
        due("as it was", x.count(7), 59);
        for (int s = 2; s <= 60; s++) due("out", x.drill(s, false), 60 - s);
        due("none left", x.count(7), 0);
        due("one in", x.drill(33, true), 1);
    }

    private static void reach() {
        promise = "18 reach";
        BoredPipes x = new BoredPipes();
        due("most", x.reach(100), 2);
        due("least", x.reach(1), 100);
        int[] outside = {0, 101, -1, LOW, HIGH};
        for (int o : outside) due("outside", x.reach(o), OUTSIDE);
        due("as it was", x.count(6), 1);
        due("again", x.reach(50), 1);
        due("now", x.count(6), 50);
    }

    private static BoredPipes oneHole(int place, int size, int wanted) {
        BoredPipes x = new BoredPipes();
        x.piece(200, 15);
        x.hole(place, size, 4);
        x.note(1, 0, wanted);
        return x;
    }

    private static void roundRefused() {
        promise = "19 round, refused";
        BoredPipes x = new BoredPipes();
        due("nothing", x.round(), NOT);
        x.note(0, 0, 1);
        due("no pieces", x.round(), NOT);
        x.piece(100, 10);
        due("no holes", x.round(), NOT);
        x.hole(50, 10, 0);
        due("all there", x.round() >= 0 ? 1 : 0, 1);
        BoredPipes y = new BoredPipes();
        y.piece(100, 10);
        y.hole(50, 10, 0);
        due("no notes", y.round(), NOT);
        due("rounds", y.count(10), 0);
        BoredPipes at = oneHole(120, 30, oneHole(120, 30, 1).tone(1, 0));
        due("no miss, no better", at.round(), 0);
        due("rounds", at.count(10), 0);
        due("place", at.bored(0, 0), 120);
        due("size", at.bored(0, 1), 30);
    }

    /** Rounds of one hole: what each did must be the first of its best moves. */
    private static void roundMoves() {
        promise = "19 round, moves";
        int[][] starts = {{60, 10, 1}, {60, 10, 300}, {150, 3, 60}, {30, 50, 5}, {100, 20, 14}, {199, 60, 30}, {1, 1, 9}};
        for (int[] s : starts) {
            BoredPipes x = oneHole(s[0], s[1], s[2]);
            for (int i = 0; i < 8; i++) {
                int place = x.bored(0, 0);
                int size = x.bored(0, 1);
                int[][] then = {{place + 1, size}, {place - 1, size}, {place, size + 1}, {place, size - 1}};
                int bestMove = NONE;
                int least = x.count(9);
                for (int m = 0; m < 4; m++) {
                    if (then[m][0] < 1 || then[m][0] > 199 || then[m][1] < 1 || then[m][1] > 60) continue;
                    int got = oneHole(then[m][0], then[m][1], s[2]).count(9);
                    if (got < least) {
                        least = got;
                        bestMove = m;
                    }
                }
                due("round", x.round(), bestMove == NONE ? 0 : 1);
                due("place", x.bored(0, 0), bestMove == NONE ? place : then[bestMove][0]);
                due("size", x.bored(0, 1), bestMove == NONE ? size : then[bestMove][1]);
                due("sum", x.count(9), least);
            }
        }
    }

    /** Where the next SIZE of the drills helps, though the nearest numbers would not. */
    private static void roundDrills() {
        promise = "19 round, drills";
        BoredPipes x = oneHole(100, 8, 60);
        for (int s = 1; s <= 60; s++) x.drill(s, s == 3 || s == 40);
        due("two drills", x.count(7), 2);
        due("round", x.round(), 1);
        due("the next greater drill", x.bored(0, 1), 40);
        due("place", x.bored(0, 0), 100);
        due("rounds", x.count(10), 1);
        x.clear();
        x.piece(200, 15);
        x.hole(100, 20, 4);
        x.note(1, 0, 1);
        due("round", x.round(), 1);
        due("the next less drill", x.bored(0, 1), 3);
    }

    /** A hole, open in the one note, that a round moves by a step; the others are tiny and shut. */
    private static BoredPipes among(int place, int wanted, int reach, int... others) {
        BoredPipes x = new BoredPipes();
        x.piece(200, 15);
        x.hole(place, 30, 4);
        for (int o : others) x.hole(o, 1, 60);
        x.note(1, 0, wanted);
        for (int s = 1; s <= 60; s++) x.drill(s, false);
        x.reach(reach);
        return x;
    }

    private static void moves(String how, BoredPipes x, int place) {
        int before = x.bored(0, 0);
        due(how + ": round", x.round(), place == before ? 0 : 1);
        due(how + ": place", x.bored(0, 0), place);
        due(how + ": rounds", x.count(10), place == before ? 0 : 1);
    }

    private static void roundReach() {
        promise = "19 round, reach";
        for (int side = 1; side >= -1; side -= 2) {
            int from = side == 1 ? 66 : 67;
            int wanted = side == 1 ? 100 : 1;
            moves("alone", among(from, wanted, 2), from + side);
            moves("REACH apart already", among(from, wanted, 3, from + 3 * side), from);
            moves("REACH 1 apart already", among(from, wanted, 1, from + side), from);
            moves("further apart than REACH", among(from, wanted, 2, from + 3 * side), from + side);
            moves("they were nearer than REACH", among(from, wanted, 50, from + 3 * side), from + side);
            moves("never at one place", among(from, wanted, 50, from + side), from);
            moves("away from the other one", among(from, wanted, 3, from - 3 * side), from + side);
            moves("one that is not next to it", among(from, wanted, 3, from + 2 * side, from + 3 * side), from + side);
            moves("the next one counts", among(from, wanted, 4, from + 8 * side, from + 4 * side), from);
        }
    }

    /**
     * One hole, one note, moves like good: {length, bore, length, bore, mouth, far end, place, size,
     * chimney, which, wanted, less drill, greater drill, move done}.
     */
    private static final int[][] LIKE_GOOD = {
        {41, 25, 19, 65, 1, 0, 29, 36, 49, 5, 201, 1, 60, 0},
        {27, 55, 79, 86, 0, 0, 63, 52, 17, 3, 106, 1, 60, 0},
        {31, 9, 43, 30, 0, 1, 33, 15, 54, 1, 19, 2, 59, 0},
        {76, 20, 93, 57, 0, 1, 55, 56, 51, 2, 80, 1, 60, 1},
        {24, 16, 13, 21, 0, 1, 2, 28, 59, 2, 102, 3, 47, 1},
        {22, 54, 9, 16, 1, 1, 16, 9, 23, 0, 49, 1, 60, 2},
        {34, 53, 52, 3, 0, 0, 42, 14, 6, 5, 25, 1, 60, 0}};

    private static void roundLikeGood() {
        promise = "19 round, like good moves";
        for (int[] t : LIKE_GOOD) {
            BoredPipes x = new BoredPipes();
            x.piece(t[0], t[1]);
            x.piece(t[2], t[3]);
            x.end(0, t[4]);
            x.end(1, t[5]);
            x.hole(t[6], t[7], t[8]);
            x.note(1, t[9], t[10]);
            for (int s = 1; s <= 60; s++) x.drill(s, s == t[11] || s == t[12]);
            due("round", x.round(), 1);
            due("place", x.bored(0, 0), t[6] + (t[13] == 0 ? 1 : t[13] == 1 ? -1 : 0));
            due("size", x.bored(0, 1), t[13] == 2 ? t[12] : t[13] == 3 ? t[11] : t[7]);
        }
    }

    /**
     * Two holes, like good moves of both: {length, bore, places, sizes, chimney, which, wanted, then
     * place and size of hole 0}.
     */
    private static final int[][] BOTH_HOLES = {
        {77, 3, 16, 68, 52, 33, 45, 0, 32, 15, 52},
        {37, 26, 8, 27, 45, 29, 11, 0, 106, 9, 45},
        {67, 37, 28, 46, 20, 45, 8, 0, 60, 28, 21},
        {50, 12, 24, 8, 30, 52, 43, 0, 279, 24, 31},
        {67, 2, 30, 65, 5, 37, 51, 2, 82, 30, 4}};

    private static void roundHolesInOrder() {
        promise = "19 round, holes in order";
        for (int[] t : BOTH_HOLES) {
            BoredPipes x = new BoredPipes();
            x.piece(t[0], t[1]);
            x.hole(t[2], t[4], t[6]);
            x.hole(t[3], t[5], t[6]);
            x.note(3, t[7], t[8]);
            due("round", x.round(), 1);
            due("place of hole 0", x.bored(0, 0), t[9]);
            due("size of hole 0", x.bored(0, 1), t[10]);
            due("place of hole 1", x.bored(1, 0), t[3]);
            due("size of hole 1", x.bored(1, 1), t[5]);
        }
    }

    /** GREATEST less goes before SUM less: the move done makes SUM more, another would have made it less. */
    private static void roundGreatestFirst() {
        promise = "19 round, GREATEST first";
        BoredPipes x = new BoredPipes();
        x.piece(85, 3);
        x.hole(33, 39, 24);
        for (int wanted : new int[] {125, 116, 125}) x.note(1, 4, wanted);
        due("greatest", x.count(8), 6);
        due("sum", x.count(9), 12);
        due("round", x.round(), 1);
        due("place", x.bored(0, 0), 34);
        due("greatest", x.count(8), 5);
        due("sum", x.count(9), 14);
        BoredPipes y = new BoredPipes();
        y.piece(43, 4);
        y.hole(41, 32, 30);
        y.note(1, 2, 152);
        y.note(1, 1, 95);
        y.note(1, 5, 294);
        due("greatest and sum", y.count(8) * 100 + y.count(9), 610);
        due("round", y.round(), 1);
        due("greatest and sum", y.count(8) * 100 + y.count(9), 411);
        due("place", y.bored(0, 0), 40);
        due("size", y.bored(0, 1), 32);
    }

    private static void keepAndBack() {
        promise = "20 keep";
        BoredPipes x = flute();
        int[] unknown = {-1, 2, LOW, HIGH};
        for (int u : unknown) due("unknown", x.keep(u), UNKNOWN);
        unchanged(x);
        due("the other shelf", x.keep(1), 1);
        x.set(0, 0, 31);
        due("not a view", x.differs(1), 1);
        due("over what was there", x.keep(0), 1);
        due("now like", x.differs(0), 0);
        due("the other as it was", x.differs(1), 1);
        promise = "21 back";
        for (int u : unknown) due("unknown", x.back(u), UNKNOWN);
        due("unknown, nothing done", x.bored(0, 0), 31);
        due("back", x.back(1), 1);
        due("place", x.bored(0, 0), 30);
        x.set(0, 0, 33);
        due("the shelf is no view", x.back(1), 1);
        due("place", x.bored(0, 0), 30);
        x.end(0, 0);
        x.end(1, 0);
        x.piece(5, 5);
        x.hole(90, 1, 1);
        x.note(2, 2, 2);
        x.reach(5);
        x.drill(1, false);
        due("back", x.back(1), 1);
        counts(x, 2, 2, 3, 100, 1, 1, 5, 59);
        due("differs", x.differs(1), 0);
        due("notes stay", x.noted(2, 2), 2);
        BoredPipes y = new BoredPipes();
        y.piece(10, 10);
        due("empty", y.back(0), NOT);
        due("empty", y.back(1), NOT);
        counts(y, 1, 0, 0, 10);
        y.clear();
        due("a pipe without pieces is kept too", y.keep(0), 1);
        y.piece(10, 10);
        due("back", y.back(0), 1);
        counts(y, 0, 0, 0, 0);
        due("the other is still empty", y.back(1), NOT);
    }

    private static void roundsAfterBack() {
        promise = "21 back, rounds";
        BoredPipes x = oneHole(66, 30, 100);
        x.keep(0);
        due("round", x.round(), 1);
        due("back", x.back(0), 1);
        due("rounds stay", x.count(10), 1);
        due("again", x.round(), 1);
        due("rounds", x.count(10), 2);
        x.clear();
        due("since clear()", x.count(10), 0);
    }

    private static void differs() {
        promise = "22 differs";
        BoredPipes x = flute();
        int[] unknown = {-1, 2, LOW, HIGH};
        for (int u : unknown) due("unknown", x.differs(u), UNKNOWN);
        due("empty", x.differs(1), NOT);
        due("like", x.differs(0), 0);
        x.end(0, 0);
        due("mouth", x.differs(0), 1);
        x.end(1, 0);
        due("far end", x.differs(0), 2);
        x.set(0, 0, 31);
        due("place", x.differs(0), 3);
        x.set(0, 1, 7);
        due("size", x.differs(0), 4);
        x.set(1, 2, 5);
        due("chimney", x.differs(0), 5);
        x.piece(1, 1);
        due("a piece more", x.differs(0), 7);
        x.hole(5, 5, 5);
        due("a hole more", x.differs(0), 10);
        x.note(0, 0, 1);
        due("notes are not looked at", x.differs(0), 10);
        x.clear();
        due("all but the ends of it, and they", x.differs(0), 2 * 2 + 2 * 3 + 2);
        x.piece(60, 14);
        due("the first piece like", x.differs(0), 10);
        x.clear();
        x.piece(40, 20);
        x.piece(60, 20);
        due("by numbers: length, bore; length", x.differs(0), 3 + 6 + 2);
        x.keep(1);
        due("the other", x.differs(1), 0);
        due("the first as it was", x.differs(0), 11);
        BoredPipes y = new BoredPipes();
        y.keep(0);
        due("kept without pieces", y.differs(0), 0);
        y.piece(3, 3);
        y.keep(1);
        y.clear();
        due("what only the shelf has", y.differs(1), 2);
    }

    public static void main(String[] args) {
        newObject();
        piece();
        cone();
        hole();
        set();
        end();
        clear();
        told();
        bored();
        count();
        sine();
        worth();
        tone();
        nearest();
        note();
        noted();
        drill();
        reach();
        roundRefused();
        roundMoves();
        roundDrills();
        roundReach();
        roundLikeGood();
        roundHolesInOrder();
        roundGreatestFirst();
        keepAndBack();
        roundsAfterBack();
        differs();
        System.out.println(checks + " checks, " + wrong + " wrong");
        if (wrong != 0) System.exit(1);
    }
}

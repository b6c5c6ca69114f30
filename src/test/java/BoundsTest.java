import java.util.function.Supplier;
import java.util.function.ToLongFunction;

/**
 * A test for each sentence of the document that names a boundary case: the last number that is let in
 * and the first that is not, empty and full, wrap-around, refused calls. Answers due were worked out
 * from the document's words, apart from the class. No object is used for more than 512 calls.
 */
public final class BoundsTest {
    private static final int NONE = -1, UNKNOWN = -1001, OUTSIDE = -1002, NOT = -1003, FULL = -1004;
    private static final int LOW = Integer.MIN_VALUE, HIGH = Integer.MAX_VALUE;
    private static final int OPEN = 0, REED = 1, SHUT = 1;
    private static final int MOUTH = 0, FAR_END = 1;
    private static final int PLACE = 0, SIZE = 1, CHIMNEY = 2;
    private static final long TWO_TO_40 = 1099511627776L;

    private static String sentence = "";
    private static int sentences = 0;
    private static int checks = 0;
    private static int wrong = 0;

    private static void test(String words, Runnable tested) {
        sentence = words;
        sentences++;
        tested.run();
    }

    private static void due(String what, long got, long due) {
        checks++;
        if (got == due) return;
        wrong++;
        System.out.println(sentence + ": " + what + " answered " + got + ", due is " + due);
    }

    private static void differ(String what, long one, long other) {
        checks++;
        if (one != other) return;
        wrong++;
        System.out.println(sentence + ": " + what + " are both " + one);
    }

    /** A call on a new object of that sort is refused so, and leaves all of it as it would be without the call. */
    private static void refused(String call, Supplier<BoredPipes> made, ToLongFunction<BoredPipes> done, long due) {
        BoredPipes x = made.get();
        due(call, done.applyAsLong(x), due);
        checks++;
        if (state(x).equals(state(made.get()))) return;
        wrong++;
        System.out.println(sentence + ": " + call + " was refused and changed something");
    }

    // ---- objects to call

    private static BoredPipes pieces(int... lengthsAndBores) {
        BoredPipes x = new BoredPipes();
        for (int i = 0; i < lengthsAndBores.length; i += 2) x.piece(lengthsAndBores[i], lengthsAndBores[i + 1]);
        return x;
    }

    private static BoredPipes ends(BoredPipes x, int mouth, int farEnd) {
        x.end(MOUTH, mouth);
        x.end(FAR_END, farEnd);
        return x;
    }

    private static BoredPipes empty() {
        return new BoredPipes();
    }

    /** Something of everything, a round that did something, and room for more; shelf 1 is empty. */
    private static BoredPipes flute() {
        BoredPipes x = ends(pieces(60, 14, 40, 20), REED, SHUT);
        x.hole(30, 6, 3);
        x.hole(60, 8, 4);
        x.note(0, 0, 20);
        x.note(3, 0, 30);
        x.reach(7);
        x.drill(9, false);
        x.round();
        x.keep(0);
        x.set(1, CHIMNEY, 9);
        return x;
    }

    /** No room for a piece, a hole, a note, and both shelves kept. */
    private static BoredPipes full() {
        BoredPipes x = new BoredPipes();
        x.cone(20, 10, 32, 12);
        x.keep(0);
        for (int k = 0; k < 6; k++) x.hole(30 + 20 * k, 5 + k, k);
        x.keep(1);
        for (int k = 0; k < 6; k++) x.note(1 << k, k, 50 + k);
        return x;
    }

    // ---- all that can be read of an object

    private static void shape(BoredPipes x, StringBuilder all) {
        for (int w = 0; w <= 10; w++) all.append(x.count(w)).append(' ');
        for (int k = 0; k < 12; k++) all.append(x.told(k, 0)).append(' ').append(x.told(k, 1)).append(' ');
        for (int h = 0; h < 6; h++) {
            for (int w = 0; w < 5; w++) all.append(x.bored(h, w)).append(' ');
        }
        all.append('\n');
    }

    /** Some 300 calls, which use the object up: its drills and shelves can't be read but by changing them. */
    private static String state(BoredPipes x) {
        StringBuilder all = new StringBuilder();
        shape(x, all);
        for (int n = 0; n < 6; n++) {
            for (int w = 0; w < 5; w++) all.append(x.noted(n, w)).append(' ');
        }
        all.append(x.worth(77, 0)).append(' ').append(x.worth(78, 63)).append(' ').append(x.tone(63, 2)).append(' ');
        for (int s = 0; s < 2; s++) all.append(x.differs(s)).append(' ');
        for (int s = 0; s < 2; s++) {
            all.append(x.back(s)).append(' ');
            shape(x, all);
        }
        for (int d = 1; d <= 60; d++) all.append(x.drill(d, false)).append(' ');
        return all.toString();
    }

    private static void asNew(BoredPipes x, int reach, int drills) {
        int[] due = {0, 0, 0, 0, OPEN, OPEN, reach, drills, 0, 0, 0};
        for (int w = 0; w <= 10; w++) due("count(" + w + ")", x.count(w), due[w]);
        due("told", x.told(0, 0), UNKNOWN);
        due("bored", x.bored(0, 0), UNKNOWN);
        due("noted", x.noted(0, 0), UNKNOWN);
    }

    // ---- terms: quotients, shifts, sets

    private static void quotientsTowardsNought() {
        BoredPipes down = new BoredPipes();
        down.cone(10, 12, 5, 4);
        int[] bores = {12, 10, 8, 5};
        for (int k = 0; k < 4; k++) due("bore of step " + k, down.told(k, 1), bores[k]);
        // t 65520: S -51. P is -51 * 32 * 10000 / 49 = -333061.2..; U is 51 * 32 * 49 / 10000 = 7.99..
        due("P", pieces(15, 7).worth(273, 0), -333061);
        due("U", ends(pieces(15, 7), REED, SHUT).worth(273, 0), 7);
        // t 16 * 3072, C 0, S -32767, U 0, P -104854400; the hole's part: -104854400 * 9 / (25 * 10 * 256) = -14745.15
        BoredPipes x = ends(pieces(16, 10, 12, 10), REED, OPEN);
        x.hole(16, 3, 7);
        due("U, the hole shut", x.worth(256, 0), 0);
        // The last stretch has t 0, so that U becomes 32767 / 32768 of -14745 (not of -14746), rounded down.
        due("U, the hole open", x.worth(256, 1), -14745);
    }

    /** Behind one more stretch; {P, U}, >> 15 as the division by 32768 rounded down. */
    private static long[] behind(long[] now, long c, long s, long square) {
        long p = Math.floorDiv(now[0] * c, 32768L) + Math.floorDiv(now[1] * s, 32768L) * 10000 / square;
        long u = Math.floorDiv(now[1] * c, 32768L) - Math.floorDiv(now[0] * s, 32768L) * square / 10000;
        return new long[] {p, u};
    }

    private static void shiftsRoundDown() {
        // {f, l, C, S}: t 65520 and t 32752, so that all four products are less than 0 and not even, now or then.
        int[][] turns = {{273, 15, 32766, -51}, {89, 23, -32766, 51}};
        for (int[] t : turns) {
            for (int farEnd = 0; farEnd < 2; farEnd++) {
                long[] due = {farEnd * 1048576L, (1 - farEnd) * 1048576L};
                BoredPipes x = new BoredPipes();
                for (int k = 1; k <= 4; k++) {
                    x.piece(t[1], 100);
                    due = behind(due, t[2], t[3], 10000);
                    due(k + " times C " + t[2] + ", P", ends(x, OPEN, farEnd).worth(t[0], 0), due[0]);
                    due(k + " times C " + t[2] + ", U", ends(x, REED, farEnd).worth(t[0], 0), due[1]);
                }
            }
        }
    }

    private static void bitKForHoleK() {
        for (int k = 0; k < 6; k++) {
            BoredPipes x = full();
            long alone = x.worth(41, 1 << k);
            long without = x.worth(41, 63 - (1 << k));
            differ("worths without holes and with hole " + k, alone, x.worth(41, 0));
            x.set(k, SIZE, 60);
            differ("worths with hole " + k + " open", alone, x.worth(41, 1 << k));
            due("worth with hole " + k + " shut", x.worth(41, 63 - (1 << k)), without);
        }
    }

    // ---- terms: refusals

    private static void unknownBeforeOutside() {
        refused("set", BoundsTest::flute, x -> x.set(2, 3, 0), UNKNOWN);
        refused("set", BoundsTest::flute, x -> x.set(-1, PLACE, 0), UNKNOWN);
        refused("set", BoundsTest::empty, x -> x.set(0, -1, 0), UNKNOWN);
        refused("told", BoundsTest::flute, x -> x.told(2, 2), UNKNOWN);
        refused("told", BoundsTest::empty, x -> x.told(0, -1), UNKNOWN);
        refused("bored", BoundsTest::flute, x -> x.bored(2, 5), UNKNOWN);
        refused("bored", BoundsTest::empty, x -> x.bored(0, -1), UNKNOWN);
        refused("noted", BoundsTest::flute, x -> x.noted(2, 5), UNKNOWN);
        refused("noted", BoundsTest::empty, x -> x.noted(0, -1), UNKNOWN);
    }

    private static void unknownBeforeNot() {
        refused("set, the place of another one", BoundsTest::flute, x -> x.set(2, PLACE, 60), UNKNOWN);
        refused("back", BoundsTest::empty, x -> x.back(2), UNKNOWN);
        refused("back", BoundsTest::empty, x -> x.back(-1), UNKNOWN);
        refused("differs", BoundsTest::empty, x -> x.differs(2), UNKNOWN);
        refused("differs", BoundsTest::empty, x -> x.differs(-1), UNKNOWN);
    }

    private static void outsideBeforeNot() {
        refused("hole, a taken place, size", BoundsTest::flute, x -> x.hole(60, 61, 1), OUTSIDE);
        refused("hole, a taken place, chimney", BoundsTest::flute, x -> x.hole(60, 1, 61), OUTSIDE);
        refused("worth, pitch", BoundsTest::empty, x -> x.worth(0, 0), OUTSIDE);
        refused("worth, set", BoundsTest::empty, x -> x.worth(1, 64), OUTSIDE);
        refused("tone, set", BoundsTest::empty, x -> x.tone(64, 0), OUTSIDE);
        refused("tone, i", BoundsTest::empty, x -> x.tone(0, -2), OUTSIDE);
        refused("nearest, pitch", BoundsTest::empty, x -> x.nearest(301, 0), OUTSIDE);
        refused("nearest, what", BoundsTest::empty, x -> x.nearest(1, 2), OUTSIDE);
    }

    private static void outsideBeforeFull() {
        refused("piece, length", BoundsTest::full, x -> x.piece(401, 1), OUTSIDE);
        refused("piece, bore", BoundsTest::full, x -> x.piece(1, 0), OUTSIDE);
        refused("cone, length", BoundsTest::full, x -> x.cone(0, 1, 1, 2), OUTSIDE);
        refused("cone, steps", BoundsTest::full, x -> x.cone(1, 1, 1, 13), OUTSIDE);
        refused("hole, place", BoundsTest::full, x -> x.hole(240, 1, 1), OUTSIDE);
        refused("hole, size", BoundsTest::full, x -> x.hole(11, 0, 1), OUTSIDE);
        refused("note, set", BoundsTest::full, x -> x.note(64, 0, 1), OUTSIDE);
        refused("note, wanted", BoundsTest::full, x -> x.note(0, 0, 301), OUTSIDE);
    }

    private static void notBeforeFull() {
        refused("hole", BoundsTest::full, x -> x.hole(30, 1, 1), NOT);
        refused("hole", BoundsTest::full, x -> x.hole(130, 60, 60), NOT);
    }

    // ---- section 1: the pipe

    private static void twelvePieces() {
        BoredPipes x = new BoredPipes();
        for (int k = 1; k <= 12; k++) due("piece " + k, x.piece(2, k), 2 * k);
        due("a thirteenth", x.piece(1, 1), FULL);
        due("pieces", x.count(0), 12);
        due("length", x.count(3), 24);
        due("the last one", x.told(11, 1), 12);
        due("no more", x.told(12, 1), UNKNOWN);
        refused("piece", BoundsTest::full, y -> y.piece(1, 1), FULL);
    }

    private static void lengthOneTo400() {
        BoredPipes x = new BoredPipes();
        due("1", x.piece(1, 50), 1);
        due("400", x.piece(400, 50), 401);
        due("cone, 1", x.cone(1, 50, 50, 2), 403);
        due("cone, 400", x.cone(400, 50, 50, 2), 1203);
        due("told", x.told(0, 0), 1);
        due("told", x.told(5, 0), 400);
        for (int v : new int[] {0, 401, -1, LOW, HIGH}) {
            refused("piece, " + v, BoundsTest::flute, y -> y.piece(v, 50), OUTSIDE);
            refused("cone, " + v, BoundsTest::flute, y -> y.cone(v, 50, 50, 2), OUTSIDE);
        }
    }

    private static void boreOneTo100() {
        BoredPipes x = new BoredPipes();
        due("1", x.piece(5, 1), 5);
        due("100", x.piece(5, 100), 10);
        due("cone, 1 to 100", x.cone(5, 1, 100, 2), 20);
        due("cone, 100 to 1", x.cone(5, 100, 1, 2), 30);
        int[] bores = {1, 100, 1, 100, 100, 1};
        for (int k = 0; k < 6; k++) due("bore of " + k, x.told(k, 1), bores[k]);
        for (int v : new int[] {0, 101, -1, LOW, HIGH}) {
            refused("piece, " + v, BoundsTest::flute, y -> y.piece(5, v), OUTSIDE);
            refused("cone, from " + v, BoundsTest::flute, y -> y.cone(5, v, 50, 2), OUTSIDE);
            refused("cone, to " + v, BoundsTest::flute, y -> y.cone(5, 50, v, 2), OUTSIDE);
        }
    }

    private static void sixHoles() {
        BoredPipes x = pieces(50, 10);
        for (int k = 0; k < 6; k++) due("hole " + k, x.hole(10 + k, 5, 5), k);
        due("a seventh", x.hole(20, 5, 5), FULL);
        due("holes", x.count(1), 6);
        due("the last one", x.bored(5, 0), 15);
        due("no more", x.bored(6, 0), UNKNOWN);
        refused("hole", BoundsTest::full, y -> y.hole(11, 1, 1), FULL);
    }

    private static void placeOneToLengthLessOne() {
        BoredPipes x = pieces(60, 14, 40, 20);
        due("1", x.hole(1, 5, 5), 0);
        due("length less 1", x.hole(99, 5, 5), 1);
        due("set, 2", x.set(0, PLACE, 2), 1);
        due("set, 1", x.set(0, PLACE, 1), 2);
        due("set, 98", x.set(1, PLACE, 98), 99);
        due("set, 99", x.set(1, PLACE, 99), 98);
        for (int v : new int[] {0, 100, 101, -1, LOW, HIGH}) {
            refused("hole, " + v, BoundsTest::flute, y -> y.hole(v, 5, 5), OUTSIDE);
            refused("set, " + v, BoundsTest::flute, y -> y.set(0, PLACE, v), OUTSIDE);
        }
    }

    private static void placeOfTheWholePipe() {
        BoredPipes x = new BoredPipes();
        due("no pieces", x.hole(1, 5, 5), OUTSIDE);
        due("no pieces", x.hole(0, 5, 5), OUTSIDE);
        x.piece(1, 10);
        due("a length of 1", x.hole(1, 5, 5), OUTSIDE);
        due("a length of 1", x.hole(0, 5, 5), OUTSIDE);
        x.piece(1, 10);
        due("a length of 2, place 2", x.hole(2, 5, 5), OUTSIDE);
        due("a length of 2, place 1", x.hole(1, 5, 5), 0);
        due("a length of 2, set 2", x.set(0, PLACE, 2), OUTSIDE);
        x.piece(400, 10);
        due("the end of it before", x.hole(2, 5, 5), 1);
        due("set to the last place", x.set(1, PLACE, 401), 2);
        due("set behind it", x.set(1, PLACE, 402), OUTSIDE);
        BoredPipes y = new BoredPipes();
        y.cone(400, 10, 10, 12);
        due("the end of the longest pipe", y.hole(4800, 5, 5), OUTSIDE);
        due("the last place of the longest pipe", y.hole(4799, 5, 5), 0);
    }

    private static void neverTwoAtOnePlace() {
        refused("hole", BoundsTest::flute, x -> x.hole(60, 5, 5), NOT);
        refused("set", BoundsTest::flute, x -> x.set(0, PLACE, 60), NOT);
        refused("set in a full one", BoundsTest::full, x -> x.set(5, PLACE, 30), NOT);
        BoredPipes x = flute();
        due("one before", x.hole(59, 5, 5), 2);
        due("one behind", x.hole(61, 5, 5), 3);
        due("set to its own place", x.set(1, PLACE, 60), 60);
        due("set away", x.set(1, PLACE, 62), 60);
        due("set to the place left", x.set(2, PLACE, 60), 59);
        due("a hole at the place left", x.hole(59, 5, 5), 4);
    }

    private static void sizeOneTo60() {
        BoredPipes x = pieces(100, 10);
        due("1", x.hole(10, 1, 5), 0);
        due("60", x.hole(20, 60, 5), 1);
        due("set, 60", x.set(0, SIZE, 60), 1);
        due("set, 1", x.set(0, SIZE, 1), 60);
        due("now", x.bored(0, 1), 1);
        for (int v : new int[] {0, 61, -1, LOW, HIGH}) {
            refused("hole, " + v, BoundsTest::flute, y -> y.hole(10, v, 5), OUTSIDE);
            refused("set, " + v, BoundsTest::flute, y -> y.set(0, SIZE, v), OUTSIDE);
        }
    }

    private static void chimneyNoughtTo60() {
        BoredPipes x = pieces(100, 10);
        due("0", x.hole(10, 5, 0), 0);
        due("60", x.hole(20, 5, 60), 1);
        due("set, 60", x.set(0, CHIMNEY, 60), 0);
        due("set, 0", x.set(0, CHIMNEY, 0), 60);
        due("now", x.bored(0, 2), 0);
        for (int v : new int[] {-1, 61, LOW, HIGH}) {
            refused("hole, " + v, BoundsTest::flute, y -> y.hole(10, 5, v), OUTSIDE);
            refused("set, " + v, BoundsTest::flute, y -> y.set(0, CHIMNEY, v), OUTSIDE);
        }
    }

    private static void mouthAndFarEnd() {
        BoredPipes x = new BoredPipes();
        due("mouth at first", x.count(4), OPEN);
        due("far end at first", x.count(5), OPEN);
        due("mouth stays", x.end(MOUTH, OPEN), OPEN);
        due("reed", x.end(MOUTH, REED), OPEN);
        due("far end stays", x.end(FAR_END, OPEN), OPEN);
        due("shut", x.end(FAR_END, SHUT), OPEN);
        due("mouth", x.count(4), REED);
        due("far end", x.count(5), SHUT);
        due("reed again", x.end(MOUTH, REED), REED);
        due("open again", x.end(FAR_END, OPEN), SHUT);
        due("mouth", x.count(4), REED);
        due("far end", x.count(5), OPEN);
        due("open mouth again", x.end(MOUTH, OPEN), REED);
        due("shut again", x.end(FAR_END, SHUT), OPEN);
        due("mouth", x.count(4), OPEN);
        due("far end", x.count(5), SHUT);
        for (int v : new int[] {-1, 2, LOW, HIGH}) {
            refused("mouth, " + v, BoundsTest::flute, y -> y.end(MOUTH, v), OUTSIDE);
            refused("far end, " + v, BoundsTest::flute, y -> y.end(FAR_END, v), OUTSIDE);
            refused("what, " + v, BoundsTest::flute, y -> y.end(v, 0), OUTSIDE);
        }
    }

    // ---- section 2: pitches, turns

    private static void pitchesOneTo300() {
        // t 16 and t 4800.
        due("worth, 1", pieces(1, 10).worth(1, 0), 51 * 32 * 100);
        due("worth, 300", pieces(1, 10).worth(300, 0), 32L * pieces(1, 10).sine(4800) * 100);
        BoredPipes x = pieces(200, 15);
        due("nearest, 1", x.nearest(1, 1), 10);
        due("nearest, 300", x.nearest(300, 1), 10);
        due("note, 1", x.note(0, 0, 1), 0);
        due("note, 300", x.note(0, 0, 300), 1);
        due("miss, 1", x.noted(0, 4), 9);
        due("miss, 300", x.noted(1, 4), 290);
        for (int v : new int[] {0, 301, -1, LOW, HIGH}) {
            refused("worth, " + v, BoundsTest::flute, y -> y.worth(v, 0), OUTSIDE);
            refused("nearest, " + v, BoundsTest::flute, y -> y.nearest(v, 0), OUTSIDE);
            refused("note, " + v, BoundsTest::flute, y -> y.note(0, 0, v), OUTSIDE);
        }
    }

    private static void turnsNoughtTo65535() {
        BoredPipes x = new BoredPipes();
        due("0", x.sine(0), 0);
        due("65535", x.sine(65535), -3);
        for (int v : new int[] {-1, 65536, 65537, LOW, HIGH}) refused("sine, " + v, BoundsTest::flute, y -> y.sine(v), OUTSIDE);
    }

    private static void sineFromHalfATurnOn() {
        BoredPipes x = new BoredPipes();
        int[][] due = {{1, 3}, {16383, 32766}, {16384, 32767}, {16385, 32766}, {32767, 3}, {32768, 0}, {32769, -3},
            {49151, -32766}, {49152, -32767}, {49153, -32766}};
        for (int[] d : due) due("sine(" + d[0] + ")", x.sine(d[0]), d[1]);
        for (int t = 1; t < 32768; t += 163) due("half a turn behind " + t, x.sine(32768 + t), -x.sine(t));
    }

    /** U at a reed is 32 C, if the far end is open: the cosine of t can be seen. */
    private static void cosineModulo65536() {
        due("t 16, last below", ends(pieces(1, 10), REED, OPEN).worth(1, 0), 32 * 32766);
        due("t 49136, 49136 and 16384 is 65520", ends(pieces(83, 10), REED, OPEN).worth(37, 0), 32 * -51);
        due("t 49152, 49152 and 16384 is 65536", ends(pieces(12, 10), REED, OPEN).worth(256, 0), 0);
        due("t 49184, 49184 and 16384 is 65568", ends(pieces(53, 10), REED, OPEN).worth(58, 0), 32 * 102);
        due("t 65520", ends(pieces(15, 10), REED, OPEN).worth(273, 0), 32 * 32766);
    }

    /** P at an open mouth is 3200 S, if the far end is open and the bore 10. */
    private static void turnModulo65536() {
        due("f l 4095, t 65520", pieces(15, 10).worth(273, 0), -51 * 3200);
        due("f l 4096, t 0", pieces(16, 10).worth(256, 0), 0);
        due("f l 4096, t 0, U", ends(pieces(16, 10), REED, OPEN).worth(256, 0), 32 * 32767);
        due("f l 4097, t 16", pieces(241, 10).worth(17, 0), 51 * 3200);
        due("f l 8192, t 0", pieces(32, 10).worth(256, 0), 0);
        due("the greatest, t 19456", pieces(400, 10).worth(300, 0), 31339 * 3200);
        due("f l 2048, t 32768", pieces(64, 10).worth(32, 0), 0);
        due("f l 2048, t 32768, U", ends(pieces(64, 10), REED, OPEN).worth(32, 0), 32 * -32767);
    }

    // ---- section 2: worths

    private static void atTheFarEnd() {
        due("open: P 0", pieces(16, 10).worth(256, 0), 0);
        due("open: U 1048576", ends(pieces(16, 10), REED, OPEN).worth(256, 0), 1048576L * 32767 >> 15);
        due("shut: P 1048576", ends(pieces(16, 10), OPEN, SHUT).worth(256, 0), 1048576L * 32767 >> 15);
        due("shut: U 0", ends(pieces(16, 10), REED, SHUT).worth(256, 0), 0);
    }

    private static void worthOfMouth() {
        BoredPipes x = pieces(32, 10);
        // A quarter turn: C 0, S 32767.
        due("open: P", x.worth(32, 0), 3200 * 32767);
        due("reed: U", ends(x, REED, OPEN).worth(32, 0), 0);
        due("shut, open: P", ends(x, OPEN, SHUT).worth(32, 0), 0);
        due("shut, reed: U", ends(x, REED, SHUT).worth(32, 0), -32 * 32767 / 100);
    }

    private static void stretchesEndAtHoles() {
        for (int f = 1; f <= 300; f += 23) {
            BoredPipes x = pieces(70, 11);
            x.hole(30, 9, 2);
            due("a shut hole", x.worth(f, 0), pieces(30, 11, 40, 11).worth(f, 0));
            x.hole(31, 9, 2);
            due("holes side by side", x.worth(f, 0), pieces(30, 11, 1, 11, 39, 11).worth(f, 0));
            x.hole(1, 9, 2);
            x.hole(69, 9, 2);
            due("first and last place", x.worth(f, 0), pieces(1, 11, 29, 11, 1, 11, 38, 11, 1, 11).worth(f, 0));
        }
        differ("worths with and without a shut hole", pieces(70, 11).worth(139, 0), pieces(30, 11, 40, 11).worth(139, 0));
    }

    private static void stretchesEndAtPieces() {
        for (int f = 1; f <= 300; f += 23) {
            BoredPipes x = pieces(30, 11, 40, 12);
            long without = x.worth(f, 0);
            x.hole(30, 9, 2);
            due("a shut hole where a piece ends", x.worth(f, 0), without);
        }
        BoredPipes y = ends(pieces(32, 10, 32, 20), REED, SHUT);
        // Two quarter turns, from the far end: U -(1048576 S >> 15) 400 / 10000, then P of that.
        long u = -(1048576L * 32767 >> 15) * 400 / 10000;
        due("bores in their order", ends(y, OPEN, SHUT).worth(32, 0), (u * 32767 >> 15) * 10000 / 100);
    }

    /**
     * {f, length and bore of four pieces, size and chimney of an open hole where the first one ends}:
     * found by search, so that P or U comes to 2^40, or to the number before it, at the mouth.
     */
    private static final int[][] NEAR_TWO_TO_40 = {
        {17, 373, 59, 244, 1, 34, 95, 248, 1, 30, 4}, {20, 124, 10, 236, 3, 52, 97, 235, 3, 14, 29},
        {3, 121, 23, 331, 2, 166, 47, 321, 4, 44, 28}, {33, 151, 10, 231, 1, 57, 57, 237, 4, 43, 2},
        {4, 350, 100, 379, 3, 103, 55, 120, 1, 58, 17}, {4, 332, 100, 156, 2, 251, 95, 186, 4, 33, 11},
        {35, 205, 100, 88, 6, 327, 63, 149, 1, 47, 8}, {40, 129, 100, 347, 3, 170, 60, 43, 1, 42, 9}};
    private static final long[][] P_AND_U = {
        {TWO_TO_40 >> 8, -185106507}, {TWO_TO_40 - 1, 1213022449},
        {-TWO_TO_40 >> 8, -267680060}, {-TWO_TO_40 + 1, -146260656},
        {676583315, TWO_TO_40 >> 8}, {250788404212L, TWO_TO_40 - 1},
        {149908179, -TWO_TO_40 >> 8}, {-31627121739L, -TWO_TO_40 + 1}};

    private static void sizesOfTwoTo40() {
        String[] how = {"P 2^40", "P 2^40 less 1", "P -2^40", "P -2^40 and 1", "U 2^40", "U 2^40 less 1", "U -2^40",
            "U -2^40 and 1"};
        for (int i = 0; i < how.length; i++) {
            int[] n = NEAR_TWO_TO_40[i];
            BoredPipes x = pieces(n[1], n[2], n[3], n[4], n[5], n[6], n[7], n[8]);
            x.hole(n[1], n[9], n[10]);
            due(how[i] + ": P", x.worth(n[0], 1), P_AND_U[i][0]);
            due(how[i] + ": U", ends(x, REED, OPEN).worth(n[0], 1), P_AND_U[i][1]);
        }
    }

    private static void asLongAsTwoTo40() {
        // Behind the last stretch P -2469135054794233, U -269828049477: >> 8 twice.
        BoredPipes x = pieces(3, 1, 35, 100, 31, 2, 16, 90, 26, 2);
        due("P", x.worth(161, 0), -37676010968L);
        due("U", ends(x, REED, OPEN).worth(161, 0), -4117250L);
        // P 2388051048515154, U -90324759629.
        BoredPipes y = pieces(35, 1, 16, 100, 3, 2, 25, 90, 12, 2);
        due("P", y.worth(153, 0), 36438767219L);
        due("U", ends(y, REED, OPEN).worth(153, 0), -1378247L);
    }

    /** The hole makes U -1204647623531, and it stays so till the last stretch has been passed. */
    private static void shiftedBehindStretchesOnly() {
        BoredPipes x = pieces(61, 90, 36, 2, 160, 90, 336, 1, 319, 1);
        x.hole(61, 60, 0);
        due("P", x.worth(2, 1), -4930507735L);
        due("U", ends(x, REED, OPEN).worth(2, 1), -4027955725L);
    }

    /** Half a turn, then half a turn: U at the reed is the hole's part alone. */
    private static void openHolesOnly() {
        long p = -32L * 32767;
        int[][] sizes = {{1, 0}, {1, 60}, {60, 0}, {60, 60}};
        for (int[] s : sizes) {
            BoredPipes x = ends(pieces(128, 10), REED, SHUT);
            x.hole(64, s[0], s[1]);
            due("shut", x.worth(32, 0), 0);
            long part = p * (s[0] * s[0]) / (25L * (s[0] + s[1]) * 32);
            due("size " + s[0] + ", chimney " + s[1], x.worth(32, 1), part * -32767 >> 15);
        }
    }

    private static void tonesOneTo299() {
        // Half turns: 2048 k between f l and (f and 1) l.
        BoredPipes first = pieces(400, 10, 400, 10, 400, 10);
        due("tone 1 is the first", first.tone(0, 0), 1);
        BoredPipes last = pieces(41, 10);
        due("how many up to 299", last.tone(0, NONE), 6);
        due("tone 299 is the last", last.tone(0, 5), 299);
        BoredPipes behind = pieces(300, 10);
        due("that of 300 is none", behind.tone(0, NONE), 43);
        due("the last", behind.tone(0, 42), 293);
        due("behind the last", behind.tone(0, 43), NONE);
    }

    private static void worthAboveNought() {
        BoredPipes x = pieces(64, 10);
        due("0 at half a turn", x.worth(32, 0), 0);
        due("above, then 0", x.tone(0, 0), 31);
        due("0, then less: none; less, then 0: none; 0, then above", x.tone(0, 1), 64);
        due("0 at a whole turn", x.worth(64, 0), 0);
        BoredPipes y = ends(pieces(64, 10), REED, SHUT);
        due("0 at half a turn", y.worth(32, 0), 0);
        due("less, then 0: none; 0, then above", y.tone(0, 0), 32);
        BoredPipes z = ends(pieces(56, 1), REED, SHUT);
        due("1 is above 0", z.worth(73, 0), 1);
        due("less", z.worth(74, 0), -7);
        due("1, then less", z.tone(0, 1), 73);
        BoredPipes w = ends(pieces(343, 1, 342, 1, 342, 1, 342, 1, 342, 1, 342, 1), REED, SHUT);
        due("1 for pitch 1", w.worth(1, 0), 1);
        due("less for pitch 2", w.worth(2, 0), -1);
        due("tone 1", w.tone(0, 0), 1);
    }

    // ---- section 3: notes

    private static void sixNotes() {
        BoredPipes x = new BoredPipes();
        for (int k = 0; k < 6; k++) due("note " + k, x.note(k, k, k + 1), k);
        due("a seventh", x.note(0, 0, 1), FULL);
        due("notes", x.count(2), 6);
        due("the last one", x.noted(5, 2), 6);
        due("no more", x.noted(6, 2), UNKNOWN);
        refused("note", BoundsTest::full, y -> y.note(0, 0, 1), FULL);
    }

    private static void whichNoughtTo5() {
        BoredPipes x = pieces(200, 15);
        due("0", x.note(0, 0, 10), 0);
        due("5", x.note(0, 5, 10), 1);
        due("the first tone", x.noted(0, 3), x.tone(0, 0));
        due("the sixth tone", x.noted(1, 3), x.tone(0, 5));
        for (int v : new int[] {-1, 6, LOW, HIGH}) refused("note, " + v, BoundsTest::flute, y -> y.note(0, v, 1), OUTSIDE);
    }

    private static void setNoughtTo63() {
        BoredPipes x = full();
        differ("tones of no hole and of hole 5 open", x.worth(99, 0), x.worth(99, 32));
        BoredPipes y = pieces(100, 10);
        due("0", y.note(0, 0, 1), 0);
        due("63", y.note(63, 0, 1), 1);
        due("told as it was given", y.noted(1, 0), 63);
        for (int v : new int[] {-1, 64, LOW, HIGH}) {
            refused("note, " + v, BoundsTest::flute, z -> z.note(v, 0, 1), OUTSIDE);
            refused("worth, " + v, BoundsTest::flute, z -> z.worth(1, v), OUTSIDE);
            refused("tone, " + v, BoundsTest::flute, z -> z.tone(v, 0), OUTSIDE);
        }
    }

    /** piece(41) has TONES 0 to 5, piece(40) 0 to 4, and piece(6) none. */
    private static void missWithoutSuchTone() {
        BoredPipes x = pieces(41, 10);
        x.note(0, 5, 300);
        due("the last tone there is", x.noted(0, 3), 299);
        due("its miss", x.noted(0, 4), 1);
        BoredPipes y = pieces(40, 10);
        due("tones", y.tone(0, NONE), 5);
        y.note(0, 4, 300);
        y.note(0, 5, 300);
        y.note(0, 5, 1);
        due("the last one", y.noted(0, 3), y.tone(0, 4));
        for (int n = 1; n < 3; n++) {
            due("the first that there is not", y.noted(n, 3), NONE);
            due("its miss", y.noted(n, 4), 300);
        }
        BoredPipes z = pieces(6, 10);
        z.note(0, 0, 300);
        due("no tones", z.tone(0, NONE), 0);
        due("tone", z.noted(0, 3), NONE);
        due("miss", z.noted(0, 4), 300);
    }

    private static void missIsASize() {
        BoredPipes x = pieces(200, 15);
        for (int wanted : new int[] {9, 10, 11, 1, 300}) x.note(0, 0, wanted);
        int[] miss = {1, 0, 1, 9, 290};
        for (int n = 0; n < 5; n++) due("miss of note " + n, x.noted(n, 4), miss[n]);
        due("greatest", x.count(8), 290);
        due("sum", x.count(9), 301);
    }

    private static void greatestAndSumOfNoNotes() {
        BoredPipes x = pieces(200, 15);
        due("greatest without any", x.count(8), 0);
        due("sum without any", x.count(9), 0);
        x.note(0, 0, 10);
        due("greatest of one without a miss", x.count(8), 0);
        due("sum of one without a miss", x.count(9), 0);
        BoredPipes y = new BoredPipes();
        for (int k = 0; k < 6; k++) y.note(0, k, 1 + 50 * k);
        due("greatest of six without tones", y.count(8), 300);
        due("sum of six without tones", y.count(9), 1800);
    }

    // ---- section 3: rounds

    private static void noDrills(BoredPipes x) {
        for (int s = 1; s <= 60; s++) x.drill(s, false);
    }

    private static void round(String how, BoredPipes x, int answer, int place, int size) {
        due(how + ": round", x.round(), answer);
        due(how + ": place", x.bored(0, 0), place);
        due(how + ": size", x.bored(0, 1), size);
    }

    /** Tones with the hole at 3, 2, 1: 61, 60, 58. One at the mouth itself would make it 57, as is wanted. */
    private static void placeNotLessThanOne() {
        BoredPipes x = ends(pieces(30, 4), REED, OPEN);
        x.hole(3, 15, 38);
        x.note(1, 0, 57);
        noDrills(x);
        round("from 3", x, 1, 2, 15);
        round("from 2", x, 1, 1, 15);
        round("from 1", x, 0, 1, 15);
        due("miss", x.count(8), 1);
        due("rounds", x.count(10), 2);
    }

    /** Tones with the hole at 27, 28, 29: 70, 68, 66. One at the far end itself would make it 64, as is wanted. */
    private static void placeNotMoreThanLengthLessOne() {
        BoredPipes x = ends(pieces(30, 6), OPEN, SHUT);
        x.hole(27, 57, 49);
        x.note(1, 0, 64);
        noDrills(x);
        round("from 27", x, 1, 28, 57);
        round("from 28", x, 1, 29, 57);
        round("from 29", x, 0, 29, 57);
        due("miss", x.count(8), 2);
        due("rounds", x.count(10), 2);
    }

    /** A hole between two others, so that its size alone can be moved. */
    private static BoredPipes between(BoredPipes x, int place, int size, int chimney, int wanted) {
        x.hole(place, size, chimney);
        x.hole(place - 1, 1, 60);
        x.hole(place + 1, 1, 60);
        x.note(1, 0, wanted);
        return x;
    }

    /** Size 59 makes 100, size 60 102; 61 would make 103, as is wanted. */
    private static void sizeNotMoreThan60() {
        BoredPipes x = between(ends(pieces(7, 10), REED, SHUT), 4, 58, 54, 103);
        round("from 58", x, 1, 4, 59);
        round("from 59", x, 1, 4, 60);
        round("from 60", x, 0, 4, 60);
        due("miss", x.count(8), 1);
    }

    /** Size 2 makes 23, size 1 21; a hole of no size would make 20, as is wanted. */
    private static void sizeNotLessThanOne() {
        BoredPipes x = between(ends(pieces(50, 2), REED, OPEN), 16, 3, 55, 20);
        round("from 3", x, 1, 16, 2);
        round("from 2", x, 1, 16, 1);
        round("from 1", x, 0, 16, 1);
        due("miss", x.count(8), 1);
    }

    private static BoredPipes drilled(int size, int wanted, int... drills) {
        BoredPipes x = pieces(200, 15);
        x.hole(100, size, 4);
        x.note(1, 0, wanted);
        noDrills(x);
        for (int s : drills) x.drill(s, true);
        return x;
    }

    private static void nextOfTheDrills() {
        round("the last one greater", drilled(30, 60, 1, 60), 1, 100, 60);
        round("the first one less", drilled(30, 1, 1, 60), 1, 100, 1);
        round("its own size is no next one, greater", drilled(8, 60, 8, 40), 1, 100, 40);
        round("its own size is no next one, less", drilled(20, 1, 3, 20), 1, 100, 3);
        round("the nearest of several greater", drilled(8, 60, 39, 40, 41, 60), 1, 100, 39);
        round("the nearest of several less", drilled(20, 1, 1, 2, 3, 4), 1, 100, 4);
        BoredPipes none = between(pieces(200, 15), 100, 8, 4, 60);
        noDrills(none);
        round("no drills", none, 0, 100, 8);
        none.drill(7, true);
        none.drill(8, true);
        round("none greater", none, 0, 100, 8);
        BoredPipes less = between(pieces(200, 15), 100, 20, 4, 1);
        noDrills(less);
        less.drill(20, true);
        less.drill(60, true);
        round("none less", less, 0, 100, 20);
    }

    /**
     * A round moves one hole a step to that side, or not: the tone of a hole at 66 is less than that of
     * one at 67. The others are so far away on that side, and shut in the note; the one that moves has
     * each number that it can have.
     */
    private static void steps(String how, int side, int reach, boolean moved, int... away) {
        int from = side > 0 ? 66 : 67;
        for (int mover = 0; mover <= away.length; mover++) {
            BoredPipes x = pieces(200, 15);
            for (int k = 0; k < mover; k++) x.hole(from + side * away[k], 1, 60);
            x.hole(from, 30, 4);
            for (int k = mover; k < away.length; k++) x.hole(from + side * away[k], 1, 60);
            x.note(1 << mover, 0, side > 0 ? 100 : 1);
            noDrills(x);
            if (reach != 2) x.reach(reach);
            due(how + ": round", x.round(), moved ? 1 : 0);
            due(how + ": place", x.bored(mover, 0), moved ? from + side : from);
            due(how + ": rounds", x.count(10), moved ? 1 : 0);
        }
    }

    private static void neverAtOnePlaceByRounds() {
        for (int side = 1; side >= -1; side -= 2) {
            steps("side by side", side, 2, false, 1);
            steps("side by side, REACH 1", side, 1, false, 1);
            steps("side by side, REACH 100", side, 100, false, 1);
            steps("side by side, more behind it", side, 1, false, 1, 2, 3);
        }
    }

    private static void twoApartAtFirst() {
        for (int side = 1; side >= -1; side -= 2) {
            steps("3 apart", side, 2, true, 3);
            steps("2 apart", side, 2, false, 2);
        }
    }

    private static void reachApartAtLeast() {
        for (int side = 1; side >= -1; side -= 2) {
            for (int reach : new int[] {2, 3, 50}) {
                steps("REACH and 1 apart", side, reach, true, reach + 1);
                steps("REACH apart", side, reach, false, reach);
            }
            steps("REACH 1, 2 apart", side, 1, true, 2);
            steps("the other side", side, 5, true, -5);
        }
        steps("REACH 100, 101 apart", 1, 100, true, 101);
        steps("REACH 100, 100 apart", 1, 100, false, 100);
    }

    private static void ifTheyWere() {
        for (int side = 1; side >= -1; side -= 2) {
            steps("REACH less 1 apart", side, 4, true, 3);
            steps("nearer than REACH on both sides", side, 50, true, 2, -2);
            steps("nearer on one side, REACH apart on the other", side, 4, false, 4, -3);
        }
        steps("REACH 100, 99 apart", 1, 100, true, 99);
    }

    private static void nextToOneAnother() {
        for (int side = 1; side >= -1; side -= 2) {
            steps("REACH from the second, nearer to the next one", side, 6, true, 6, 3);
            steps("nearer to the next one, REACH from the second", side, 6, true, 3, 6);
            steps("REACH from the next one", side, 6, false, 12, 6);
            steps("REACH from the next one, a third", side, 6, false, 6, 12, 18);
        }
    }

    private static void likeGoodIsNotBetter() {
        BoredPipes x = pieces(200, 15);
        x.hole(100, 8, 4);
        x.note(0, 0, 60);
        due("no move makes a difference", x.round(), 0);
        BoredPipes y = pieces(200, 15);
        y.hole(100, 8, 4);
        y.note(1, 0, y.tone(1, 0));
        due("no miss", y.round(), 0);
        due("rounds", y.count(10), 0);
        BoredPipes z = pieces(200, 15);
        z.hole(100, 8, 4);
        for (int k = 0; k < 6; k++) {
            z.note(0, 0, 11);
            due("misses of 1 that no move changes", z.round(), 0);
        }
        due("sum", z.count(9), 6);
    }

    /** Before, the hole's set has 3 TONES; the move makes a fourth, 291. */
    private static void fromNoToneToOne() {
        BoredPipes x = ends(pieces(25, 1), REED, OPEN);
        x.hole(12, 32, 13);
        x.note(1, 3, 299);
        due("no tone", x.noted(0, 3), NONE);
        due("greatest", x.count(8), 300);
        round("the move", x, 1, 11, 32);
        due("tone", x.noted(0, 3), 291);
        due("greatest", x.count(8), 8);
    }

    // ---- the promises

    private static void newObject() {
        asNew(new BoredPipes(), 2, 60);
        BoredPipes x = new BoredPipes();
        for (int s = 0; s < 2; s++) {
            due("back", x.back(s), NOT);
            due("differs", x.differs(s), NOT);
        }
        due("worth", x.worth(1, 0), NOT);
        due("tone", x.tone(0, NONE), NOT);
        due("nearest", x.nearest(1, 0), NOT);
        due("round", x.round(), NOT);
        due("clear", x.clear(), 0);
    }

    private static void pieceBehindThoseThere() {
        BoredPipes x = new BoredPipes();
        due("the first", x.piece(7, 3), 7);
        due("the second", x.piece(9, 4), 16);
        due("the cone behind them", x.cone(2, 5, 6, 2), 20);
        due("the last", x.piece(400, 7), 420);
        for (int k = 0; k < 5; k++) due("bore of " + k, x.told(k, 1), 3 + k);
        BoredPipes y = new BoredPipes();
        for (int k = 1; k <= 12; k++) due("the longest", y.piece(400, 1), 400 * k);
    }

    private static void twoToTwelveSteps() {
        due("2", new BoredPipes().cone(10, 5, 9, 2), 20);
        due("12", new BoredPipes().cone(10, 5, 9, 12), 120);
        for (int v : new int[] {1, 13, 0, -1, LOW, HIGH}) {
            refused("in an empty one, " + v, BoundsTest::empty, x -> x.cone(10, 5, 9, v), OUTSIDE);
            refused("steps " + v, BoundsTest::flute, x -> x.cone(10, 5, 9, v), OUTSIDE);
        }
    }

    private static void boresOfSteps() {
        int[][] cones = {{1, 100, 2}, {100, 1, 2}, {5, 5, 3}, {5, 7, 4}, {7, 5, 4}, {1, 100, 12}, {100, 1, 12}, {1, 2, 12},
            {2, 1, 12}, {99, 100, 3}};
        for (int[] c : cones) {
            BoredPipes x = new BoredPipes();
            x.cone(1, c[0], c[1], c[2]);
            due("pieces", x.count(0), c[2]);
            for (int k = 0; k < c[2]; k++) {
                int way = Math.abs(c[1] - c[0]) * k / (c[2] - 1);
                due(c[0] + " to " + c[1] + ", step " + k, x.told(k, 1), c[1] < c[0] ? c[0] - way : c[0] + way);
            }
            due("the last", x.told(c[2] - 1, 1), c[1]);
        }
    }

    private static void roomForAllSteps() {
        BoredPipes x = new BoredPipes();
        for (int k = 0; k < 10; k++) x.piece(1, 1);
        due("no room for 3", x.cone(1, 1, 1, 3), FULL);
        due("pieces", x.count(0), 10);
        due("room for 2", x.cone(1, 1, 1, 2), 12);
        BoredPipes y = pieces(1, 1);
        due("no room for 12", y.cone(1, 1, 1, 12), FULL);
        due("pieces", y.count(0), 1);
        due("room for 11", y.cone(1, 1, 1, 11), 12);
        due("none for 2", y.cone(1, 1, 1, 2), FULL);
        BoredPipes z = new BoredPipes();
        for (int k = 0; k < 11; k++) z.piece(1, 1);
        due("one is free, none for 2", z.cone(1, 1, 1, 2), FULL);
        due("one is free", z.piece(1, 1), 12);
        refused("cone", BoundsTest::full, w -> w.cone(1, 1, 1, 2), FULL);
        refused("cone", BoundsTest::flute, w -> w.cone(1, 1, 1, 11), FULL);
    }

    private static void setWhatNoughtTo2() {
        BoredPipes x = flute();
        int place = x.bored(0, 0);
        int size = x.bored(0, 1);
        due("place", x.set(0, PLACE, 31), place);
        due("size", x.set(0, SIZE, 32), size);
        due("chimney", x.set(0, CHIMNEY, 33), 3);
        int[] now = {31, 32, 33};
        for (int w = 0; w < 3; w++) due("now", x.bored(0, w), now[w]);
        due("what it is already", x.set(0, SIZE, 32), 32);
        for (int v : new int[] {-1, 3, 4, LOW, HIGH}) refused("set, what " + v, BoundsTest::flute, y -> y.set(0, v, 5), OUTSIDE);
    }

    private static void setUnknown() {
        due("the last hole", full().set(5, SIZE, 9), 10);
        due("the last hole", flute().set(1, SIZE, 9), 8);
        for (int v : new int[] {2, 5, -1, LOW, HIGH}) refused("set, hole " + v, BoundsTest::flute, x -> x.set(v, SIZE, 5), UNKNOWN);
        refused("set, hole 6", BoundsTest::full, x -> x.set(6, SIZE, 5), UNKNOWN);
        refused("set, hole 0", BoundsTest::empty, x -> x.set(0, SIZE, 5), UNKNOWN);
    }

    private static void clearAllBut() {
        BoredPipes x = flute();
        due("rounds", x.count(10), 1);
        due("how many pieces", x.clear(), 2);
        asNew(x, 7, 59);
        due("how many then", x.clear(), 0);
        due("shelf 1", x.back(1), NOT);
        due("shelf 0", x.back(0), 1);
        due("pieces", x.count(0), 2);
        BoredPipes y = full();
        due("how many of a full one", y.clear(), 12);
        asNew(y, 2, 60);
        due("room for pieces", y.cone(400, 1, 100, 12), 4800);
        for (int k = 0; k < 6; k++) due("room for holes", y.hole(4799 - k, 1, 0), k);
        for (int k = 0; k < 6; k++) due("room for notes", y.note(0, 0, 1), k);
    }

    private static BoredPipes drawn(BoredPipes x) {
        x.cone(20, 10, 32, 12);
        for (int k = 0; k < 6; k++) x.hole(30 + 20 * k, 5 + k, k);
        for (int k = 0; k < 6; k++) x.note(1 << k, k, 50 + k);
        return x;
    }

    private static BoredPipes drawnSmall(BoredPipes x) {
        x.piece(61, 14);
        x.piece(40, 20);
        for (int k = 0; k < 3; k++) due("hole " + k, x.hole(50 + 20 * (k % 2) + k / 2, 5, k), k);
        x.note(7, 0, 60);
        return x;
    }

    private static void same(String what, BoredPipes one, BoredPipes other) {
        checks++;
        if (state(one).equals(state(other))) return;
        wrong++;
        System.out.println(sentence + ": " + what);
    }

    /** What was there and is not any more: no place is taken by it, no stretch ends at it. */
    private static void nothingLeftByClear() {
        BoredPipes x = drawn(new BoredPipes());
        x.end(MOUTH, REED);
        x.end(FAR_END, SHUT);
        x.clear();
        same("as at first", x, new BoredPipes());
        BoredPipes y = drawn(new BoredPipes());
        y.clear();
        same("another pipe", drawnSmall(y), drawnSmall(new BoredPipes()));
        BoredPipes z = drawn(new BoredPipes());
        z.clear();
        same("the same pipe", drawn(z), drawn(new BoredPipes()));
    }

    private static void nothingLeftByBack() {
        BoredPipes x = drawnSmall(new BoredPipes());
        x.keep(0);
        x.cone(5, 60, 70, 10);
        for (int k = 0; k < 3; k++) x.hole(20 + 10 * k, 60, 0);
        x.back(0);
        BoredPipes due = drawnSmall(new BoredPipes());
        due.keep(0);
        for (int k = 0; k < 3; k++) due("a hole where one was, " + k, x.hole(20 + 10 * k, 9, 9), 3 + k);
        for (int k = 0; k < 3; k++) due.hole(20 + 10 * k, 9, 9);
        same("holes again", x, due);
        BoredPipes y = drawnSmall(new BoredPipes());
        y.keep(0);
        BoredPipes without = drawnSmall(new BoredPipes());
        without.keep(0);
        y.hole(20, 60, 0);
        y.piece(7, 7);
        y.back(0);
        for (int f = 7; f <= 300; f += 31) due("worth " + f, y.worth(f, 63), without.worth(f, 63));
        due("round", y.round(), without.round());
        same("the small one", y, without);
    }

    private static void toldBounds() {
        BoredPipes x = full();
        due("length of the first", x.told(0, 0), 20);
        due("bore of the last", x.told(11, 1), 32);
        for (int v : new int[] {-1, 12, LOW, HIGH}) refused("full, piece " + v, BoundsTest::full, y -> y.told(v, 0), UNKNOWN);
        for (int v : new int[] {-1, 2, 11, LOW, HIGH}) refused("piece " + v, BoundsTest::flute, y -> y.told(v, 1), UNKNOWN);
        refused("none", BoundsTest::empty, y -> y.told(0, 0), UNKNOWN);
        for (int v : new int[] {-1, 2, LOW, HIGH}) refused("what " + v, BoundsTest::flute, y -> y.told(1, v), OUTSIDE);
    }

    private static void boredBounds() {
        BoredPipes x = full();
        due("place of the first", x.bored(0, 0), 30);
        due("how many before the last", x.bored(5, 4), 5);
        for (int v : new int[] {-1, 6, LOW, HIGH}) refused("full, hole " + v, BoundsTest::full, y -> y.bored(v, 0), UNKNOWN);
        for (int v : new int[] {-1, 2, 5, LOW, HIGH}) refused("hole " + v, BoundsTest::flute, y -> y.bored(v, 4), UNKNOWN);
        refused("none", BoundsTest::empty, y -> y.bored(0, 3), UNKNOWN);
        for (int v : new int[] {-1, 5, LOW, HIGH}) refused("what " + v, BoundsTest::flute, y -> y.bored(1, v), OUTSIDE);
    }

    private static void pieceOfAHole() {
        BoredPipes x = pieces(10, 5, 1, 5, 20, 5);
        int[][] due = {{1, 0}, {9, 0}, {10, 0}, {11, 1}, {12, 2}, {30, 2}};
        for (int k = 0; k < 6; k++) {
            due("hole", x.hole(due[k][0], 5, 5), k);
            due("piece at " + due[k][0], x.bored(k, 3), due[k][1]);
            due("nearer to the mouth", x.bored(k, 4), k);
        }
        x.piece(5, 5);
        due("set to the end of the last but one", x.set(0, PLACE, 31), 1);
        due("piece", x.bored(0, 3), 2);
        due("nearer to the mouth", x.bored(0, 4), 5);
        due("one nearer less", x.bored(5, 4), 4);
        due("set behind it", x.set(0, PLACE, 32), 31);
        due("piece", x.bored(0, 3), 3);
    }

    private static void countNoughtTo10() {
        BoredPipes x = full();
        int[] due = {12, 6, 6, 240, OPEN, OPEN, 2, 60};
        for (int w = 0; w < 8; w++) due("count(" + w + ")", x.count(w), due[w]);
        due("rounds", x.count(10), 0);
        due("rounds of a flute", flute().count(10), 1);
        for (int v : new int[] {-1, 11, LOW, HIGH}) {
            refused("count(" + v + ")", BoundsTest::full, y -> y.count(v), OUTSIDE);
            refused("empty, count(" + v + ")", BoundsTest::empty, y -> y.count(v), OUTSIDE);
        }
    }

    private static void bitsOfNoHoles() {
        for (int f = 3; f <= 300; f += 31) {
            BoredPipes x = pieces(70, 11);
            due("no holes", x.worth(f, 63), x.worth(f, 0));
            x.hole(30, 9, 2);
            due("one, the others", x.worth(f, 62), x.worth(f, 0));
            due("one, all", x.worth(f, 63), x.worth(f, 1));
        }
        BoredPipes y = full();
        differ("worths of 63 and 31 with six holes", y.worth(99, 63), y.worth(99, 31));
    }

    private static void withoutPieces() {
        refused("worth", BoundsTest::empty, x -> x.worth(1, 0), NOT);
        refused("worth", BoundsTest::empty, x -> x.worth(300, 63), NOT);
        refused("tone", BoundsTest::empty, x -> x.tone(0, 0), NOT);
        refused("tone", BoundsTest::empty, x -> x.tone(63, NONE), NOT);
        refused("nearest", BoundsTest::empty, x -> x.nearest(1, 0), NOT);
        refused("nearest", BoundsTest::empty, x -> x.nearest(300, 1), NOT);
        refused("no reed makes a difference", () -> ends(new BoredPipes(), REED, SHUT), x -> x.worth(1, 0), NOT);
        due("one of length 1 is enough", pieces(1, 1).tone(0, NONE), 0);
    }

    private static void toneBounds() {
        BoredPipes x = pieces(100, 20);
        due("how many", x.tone(0, NONE), 14);
        due("the first", x.tone(0, 0), 20);
        differ("the last and none", x.tone(0, 13), NONE);
        due("the first that there is not", x.tone(0, 14), NONE);
        due("far behind", x.tone(0, HIGH), NONE);
        due("300", x.tone(0, 300), NONE);
        for (int i = 1; i < 14; i++) due("rising", x.tone(0, i) > x.tone(0, i - 1) ? 1 : 0, 1);
        due("none at all", pieces(6, 10).tone(0, 0), NONE);
        due("how many of none", pieces(6, 10).tone(0, NONE), 0);
        for (int v : new int[] {-2, -3, LOW}) refused("i " + v, BoundsTest::flute, y -> y.tone(0, v), OUTSIDE);
    }

    private static void nearestOfAllSets() {
        BoredPipes none = pieces(200, 15);
        due("no holes: the set", none.nearest(300, 0), 0);
        due("no holes: its tone", none.nearest(300, 1), 10);
        BoredPipes six = pieces(80, 20);
        for (int k = 0; k < 6; k++) six.hole(71 - 9 * k, 30, 23);
        due("all of six", six.nearest(300, 0), 63);
        due("its tone", six.nearest(300, 1), 41);
        due("tone of all but the last one", six.tone(31, 0), 37);
        BoredPipes one = pieces(200, 15);
        one.hole(120, 8, 4);
        due("the last set of one hole", one.nearest(300, 0), 1);
        for (int v : new int[] {-1, 2, LOW, HIGH}) refused("what " + v, BoundsTest::flute, y -> y.nearest(1, v), OUTSIDE);
    }

    private static void ofLikeOnesTheLeast() {
        // Tones of the sets: 14, 17, 15, 17.
        BoredPipes x = pieces(139, 23);
        x.hole(63, 20, 7);
        x.hole(123, 20, 4);
        due("set of 17, not of 15 or 17 again", x.nearest(16, 0), 1);
        due("tone", x.nearest(16, 1), 17);
        // 14, 16, 23, 27.
        BoredPipes y = pieces(146, 10);
        y.hole(115, 19, 6);
        y.hole(67, 28, 3);
        due("set of 23, not of 27", y.nearest(25, 0), 2);
        due("tone", y.nearest(25, 1), 23);
        due("set of 27 a step further", y.nearest(26, 0), 3);
        due("set of 23 a step before", y.nearest(24, 0), 2);
    }

    private static void nearestWithoutTones() {
        BoredPipes x = pieces(6, 10);
        due("set", x.nearest(150, 0), NONE);
        due("tone", x.nearest(150, 1), NONE);
        x.hole(3, 1, 60);
        due("set with a hole", x.nearest(300, 0), NONE);
        due("tone with a hole", x.nearest(1, 1), NONE);
        // A set without a tone is not nearer than one whose tone is as far away as can be.
        BoredPipes y = pieces(400, 10, 400, 10, 400, 10);
        due("tone 1, pitch 300", y.nearest(300, 1), 1);
        due("its set", y.nearest(300, 0), 0);
    }

    private static void notedBounds() {
        BoredPipes x = full();
        due("set of the first", x.noted(0, 0), 1);
        due("wanted of the last", x.noted(5, 2), 55);
        due("which of the last", x.noted(5, 1), 5);
        for (int v : new int[] {-1, 6, LOW, HIGH}) refused("full, note " + v, BoundsTest::full, y -> y.noted(v, 0), UNKNOWN);
        for (int v : new int[] {-1, 2, 5, LOW, HIGH}) refused("note " + v, BoundsTest::flute, y -> y.noted(v, 4), UNKNOWN);
        refused("none", BoundsTest::empty, y -> y.noted(0, 3), UNKNOWN);
        for (int v : new int[] {-1, 5, LOW, HIGH}) refused("what " + v, BoundsTest::flute, y -> y.noted(1, v), OUTSIDE);
    }

    private static void notedWithoutPieces() {
        BoredPipes x = new BoredPipes();
        due("note", x.note(63, 5, 300), 0);
        int[] due = {63, 5, 300, NONE, 300};
        for (int w = 0; w < 5; w++) due("noted what " + w, x.noted(0, w), due[w]);
        x.end(FAR_END, SHUT);
        due("tone, shut", x.noted(0, 3), NONE);
        x.piece(41, 10);
        x.end(FAR_END, OPEN);
        due("tone with a piece", x.noted(0, 3), 299);
        x.keep(0);
        BoredPipes y = new BoredPipes();
        y.keep(0);
        y.piece(41, 10);
        y.note(0, 5, 300);
        due("miss", y.noted(0, 4), 1);
        y.back(0);
        due("miss without pieces again", y.noted(0, 4), 300);
    }

    private static void drillOneTo60() {
        BoredPipes x = new BoredPipes();
        due("1 out", x.drill(1, false), 59);
        due("60 out", x.drill(60, false), 58);
        due("1 out again", x.drill(1, false), 58);
        due("60 in", x.drill(60, true), 59);
        due("60 in again", x.drill(60, true), 59);
        due("1 in", x.drill(1, true), 60);
        for (int s = 1; s <= 60; s++) due(s + " out", x.drill(s, false), 60 - s);
        due("none", x.count(7), 0);
        due("none out of none", x.drill(30, false), 0);
        for (int s = 60; s >= 1; s--) due(s + " in", x.drill(s, true), 61 - s);
        for (int v : new int[] {0, 61, -1, 64, 65, -63, LOW, HIGH}) {
            refused("in " + v, BoundsTest::flute, y -> y.drill(v, true), OUTSIDE);
            refused("out " + v, BoundsTest::flute, y -> y.drill(v, false), OUTSIDE);
        }
    }

    private static void reachOneTo100() {
        BoredPipes x = new BoredPipes();
        due("1", x.reach(1), 2);
        due("100", x.reach(100), 1);
        due("100 again", x.reach(100), 100);
        due("now", x.count(6), 100);
        for (int v : new int[] {0, 101, -1, LOW, HIGH}) refused("reach, " + v, BoundsTest::flute, y -> y.reach(v), OUTSIDE);
    }

    private static BoredPipes noPieces() {
        BoredPipes x = new BoredPipes();
        x.note(1, 0, 60);
        return x;
    }

    private static BoredPipes noHoles() {
        BoredPipes x = pieces(200, 15);
        x.note(1, 0, 60);
        return x;
    }

    private static BoredPipes noNotes() {
        BoredPipes x = pieces(200, 15);
        x.hole(66, 30, 4);
        return x;
    }

    private static void roundWithoutAll() {
        refused("nothing", BoundsTest::empty, BoredPipes::round, NOT);
        refused("a note alone", BoundsTest::noPieces, BoredPipes::round, NOT);
        refused("no holes", BoundsTest::noHoles, BoredPipes::round, NOT);
        refused("no notes", BoundsTest::noNotes, BoredPipes::round, NOT);
        BoredPipes x = noNotes();
        x.note(1, 0, 100);
        due("all there", x.round(), 1);
        x.clear();
        due("cleared", x.round(), NOT);
        due("rounds", x.count(10), 0);
    }

    private static void roundsSinceClear() {
        BoredPipes x = ends(pieces(30, 4), REED, OPEN);
        x.hole(3, 15, 38);
        x.note(1, 0, 57);
        noDrills(x);
        x.keep(0);
        for (int k = 1; k <= 2; k++) {
            due("round", x.round(), 1);
            due("rounds", x.count(10), k);
        }
        due("one that does nothing", x.round(), 0);
        due("rounds", x.count(10), 2);
        x.clear();
        due("rounds", x.count(10), 0);
        x.back(0);
        x.note(1, 0, 57);
        due("round", x.round(), 1);
        due("rounds", x.count(10), 1);
    }

    private static void shelvesNoughtAndOne() {
        for (int v : new int[] {-1, 2, LOW, HIGH}) {
            refused("keep " + v, BoundsTest::flute, x -> x.keep(v), UNKNOWN);
            refused("back " + v, BoundsTest::flute, x -> x.back(v), UNKNOWN);
            refused("differs " + v, BoundsTest::flute, x -> x.differs(v), UNKNOWN);
            refused("keep " + v, BoundsTest::empty, x -> x.keep(v), UNKNOWN);
        }
        BoredPipes x = pieces(1, 1);
        due("keep 0", x.keep(0), 1);
        x.piece(2, 2);
        due("keep 1", x.keep(1), 1);
        due("back 0", x.back(0), 1);
        due("pieces of 0", x.count(0), 1);
        due("back 1", x.back(1), 1);
        due("pieces of 1", x.count(0), 2);
    }

    private static void emptyShelves() {
        refused("back 0", BoundsTest::empty, x -> x.back(0), NOT);
        refused("back 1", BoundsTest::flute, x -> x.back(1), NOT);
        refused("differs 0", BoundsTest::empty, x -> x.differs(0), NOT);
        refused("differs 1", BoundsTest::flute, x -> x.differs(1), NOT);
        BoredPipes x = new BoredPipes();
        due("keep without pieces", x.keep(1), 1);
        due("it is kept", x.differs(1), 0);
        x.piece(5, 5);
        due("back", x.back(1), 1);
        due("pieces", x.count(0), 0);
        due("the other one", x.back(0), NOT);
    }

    private static void keepAndBackFull() {
        BoredPipes x = ends(full(), REED, SHUT);
        x.keep(0);
        x.clear();
        x.reach(9);
        x.drill(1, false);
        x.note(5, 4, 3);
        due("back", x.back(0), 1);
        int[] counts = {12, 6, 1, 240, REED, SHUT, 9, 59};
        for (int w = 0; w < 8; w++) due("count(" + w + ")", x.count(w), counts[w]);
        for (int k = 0; k < 12; k++) due("bore of " + k, x.told(k, 1), 10 + 2 * k);
        for (int k = 0; k < 6; k++) {
            due("place of " + k, x.bored(k, 0), 30 + 20 * k);
            due("size of " + k, x.bored(k, 1), 5 + k);
            due("chimney of " + k, x.bored(k, 2), k);
        }
        due("the note stays", x.noted(0, 0), 5);
        due("a piece more", x.piece(1, 1), FULL);
        due("a hole more", x.hole(1, 1, 1), FULL);
    }

    private static void backToLess() {
        BoredPipes x = new BoredPipes();
        x.keep(0);
        x.piece(100, 10);
        x.hole(99, 5, 5);
        x.note(1, 0, 60);
        due("back", x.back(0), 1);
        due("told", x.told(0, 0), UNKNOWN);
        due("bored", x.bored(0, 0), UNKNOWN);
        due("worth", x.worth(1, 0), NOT);
        due("round", x.round(), NOT);
        due("notes", x.count(2), 1);
        due("length", x.count(3), 0);
        due("a place of the pipe before", x.hole(99, 5, 5), OUTSIDE);
    }

    private static void differsOfAll() {
        BoredPipes x = ends(full(), REED, SHUT);
        x.keep(0);
        due("none", x.differs(0), 0);
        x.clear();
        due("all of it, the shelf alone has them", x.differs(0), 12 * 2 + 6 * 3 + 2);
        x.keep(1);
        x.back(0);
        due("all of it, the pipe alone has them", x.differs(1), 12 * 2 + 6 * 3 + 2);
        x.end(MOUTH, OPEN);
        due("all but the mouth", x.differs(1), 12 * 2 + 6 * 3 + 1);
        due("the mouth alone", x.differs(0), 1);
        x.end(FAR_END, OPEN);
        due("mouth and far end", x.differs(0), 2);
        x.set(5, CHIMNEY, 60);
        due("the last number of the last hole", x.differs(0), 3);
        x.set(0, PLACE, 29);
        x.set(0, SIZE, 60);
        due("two numbers of the first hole", x.differs(0), 5);
    }

    private static void differsByNumbers() {
        BoredPipes x = pieces(10, 1, 20, 2);
        x.hole(5, 3, 4);
        x.hole(6, 3, 4);
        x.keep(0);
        x.set(0, PLACE, 7);
        x.set(1, PLACE, 5);
        x.set(0, PLACE, 6);
        due("the same holes by other numbers", x.differs(0), 2);
        x.clear();
        x.piece(20, 2);
        x.piece(10, 1);
        due("the same pieces by other numbers, no holes", x.differs(0), 4 + 6);
        x.clear();
        x.piece(20, 2);
        due("one piece of two", x.differs(0), 2 + 2 + 6);
        x.note(1, 1, 1);
        x.reach(50);
        x.drill(5, false);
        due("notes, REACH, drills are not looked at", x.differs(0), 2 + 2 + 6);
    }

    private static void tests() {
        test("Terms: / cuts towards 0", BoundsTest::quotientsTowardsNought);
        test("Terms: >> k is rounded down", BoundsTest::shiftsRoundDown);
        test("Terms: a SET, bit k for HOLE k", BoundsTest::bitKForHoleK);
        test("Refusals: UNKNOWN before OUTSIDE", BoundsTest::unknownBeforeOutside);
        test("Refusals: UNKNOWN before NOT", BoundsTest::unknownBeforeNot);
        test("Refusals: OUTSIDE before NOT", BoundsTest::outsideBeforeNot);
        test("Refusals: OUTSIDE before FULL", BoundsTest::outsideBeforeFull);
        test("Refusals: NOT before FULL", BoundsTest::notBeforeFull);
        test("1: PIECES (12 at most)", BoundsTest::twelvePieces);
        test("1: LENGTH (1 .. 400)", BoundsTest::lengthOneTo400);
        test("1: BORE (1 .. 100)", BoundsTest::boreOneTo100);
        test("1: HOLES (6 at most)", BoundsTest::sixHoles);
        test("1: PLACE (1 .. LENGTH less 1)", BoundsTest::placeOneToLengthLessOne);
        test("1: PLACE, LENGTH of the whole pipe", BoundsTest::placeOfTheWholePipe);
        test("1: two are never at one PLACE", BoundsTest::neverTwoAtOnePlace);
        test("1: SIZE (1 .. 60)", BoundsTest::sizeOneTo60);
        test("1: CHIMNEY (0 .. 60)", BoundsTest::chimneyNoughtTo60);
        test("1: MOUTH and far end, 0 (at first) or 1", BoundsTest::mouthAndFarEnd);
        test("2: PITCHES are 1 to 300", BoundsTest::pitchesOneTo300);
        test("2: TURN (0 .. 65535)", BoundsTest::turnsNoughtTo65535);
        test("2: SINE, less than 0 from 32768 on", BoundsTest::sineFromHalfATurnOn);
        test("2: COSINE (modulo 65536)", BoundsTest::cosineModulo65536);
        test("2: t = f l 16 modulo 65536", BoundsTest::turnModulo65536);
        test("2: P and U at the far end", BoundsTest::atTheFarEnd);
        test("2: P, if the MOUTH is OPEN, U, if it is a REED", BoundsTest::worthOfMouth);
        test("2: STRETCHES, a HOLE (OPEN or shut)", BoundsTest::stretchesEndAtHoles);
        test("2: STRETCHES, where a PIECE ends", BoundsTest::stretchesEndAtPieces);
        test("2: P or U is 2^40 or more in size", BoundsTest::sizesOfTwoTo40);
        test("2: as long as P or U is 2^40 or more", BoundsTest::asLongAsTwoTo40);
        test("2: behind each STRETCH, at a HOLE then", BoundsTest::shiftedBehindStretchesOnly);
        test("2: at a HOLE that is OPEN", BoundsTest::openHolesOnly);
        test("2: TONES, PITCHES f (1 .. 299)", BoundsTest::tonesOneTo299);
        test("2: TONES, above 0 and not", BoundsTest::worthAboveNought);
        test("3: NOTES (6 at most)", BoundsTest::sixNotes);
        test("3: which of its TONES (0 .. 5)", BoundsTest::whichNoughtTo5);
        test("3: a SET (0 .. 63)", BoundsTest::setNoughtTo63);
        test("3: MISS, 300, if it has no such TONE", BoundsTest::missWithoutSuchTone);
        test("3: MISS, the size of the difference", BoundsTest::missIsASize);
        test("3: GREATEST (0 without any), SUM", BoundsTest::greatestAndSumOfNoNotes);
        test("3: PLACE less, as far as section 1 lets it", BoundsTest::placeNotLessThanOne);
        test("3: PLACE more, as far as section 1 lets it", BoundsTest::placeNotMoreThanLengthLessOne);
        test("3: SIZE greater, as far as section 1 lets it", BoundsTest::sizeNotMoreThan60);
        test("3: SIZE less, as far as section 1 lets it", BoundsTest::sizeNotLessThanOne);
        test("3: the next greater, or less, of THE DRILLS", BoundsTest::nextOfTheDrills);
        test("3: one that would be at the PLACE of another one is none", BoundsTest::neverAtOnePlaceByRounds);
        test("3: REACH (2 at first)", BoundsTest::twoApartAtFirst);
        test("3: HOLES stay REACH apart at least", BoundsTest::reachApartAtLeast);
        test("3: REACH, if they were", BoundsTest::ifTheyWere);
        test("3: REACH, HOLES next to one another", BoundsTest::nextToOneAnother);
        test("3: better than none", BoundsTest::likeGoodIsNotBetter);
        test("3: a MOVE that brings a TONE", BoundsTest::fromNoToneToOne);
        test("Promise 1: all as at first", BoundsTest::newObject);
        test("Promise 2: behind those there", BoundsTest::pieceBehindThoseThere);
        test("Promise 3: n STEPS (2 .. 12)", BoundsTest::twoToTwelveSteps);
        test("Promise 3: BORES from one to the other", BoundsTest::boresOfSteps);
        test("Promise 3: FULL, there is not room for n", BoundsTest::roomForAllSteps);
        test("Promise 5: what 0, 1, 2", BoundsTest::setWhatNoughtTo2);
        test("Promise 5: UNKNOWN", BoundsTest::setUnknown);
        test("Promise 7: all but THE DRILLS, REACH and SHELVES", BoundsTest::clearAllBut);
        test("Promise 7: as at first", BoundsTest::nothingLeftByClear);
        test("Promise 8: PIECE, what", BoundsTest::toldBounds);
        test("Promise 9: HOLE, what", BoundsTest::boredBounds);
        test("Promise 9: the PIECE in which it is (at the end of one: that one)", BoundsTest::pieceOfAHole);
        test("Promise 10: what 0 .. 10", BoundsTest::countNoughtTo10);
        test("Promise 12: bits of HOLES that there are not", BoundsTest::bitsOfNoHoles);
        test("Promises 12 to 14: NOT, there are no PIECES", BoundsTest::withoutPieces);
        test("Promise 13: i from NONE on", BoundsTest::toneBounds);
        test("Promise 14: of all SETS", BoundsTest::nearestOfAllSets);
        test("Promise 14: of like ones the least", BoundsTest::ofLikeOnesTheLeast);
        test("Promise 14: none has a TONE", BoundsTest::nearestWithoutTones);
        test("Promise 16: NOTE, what", BoundsTest::notedBounds);
        test("Promise 16: without PIECES it has no TONE", BoundsTest::notedWithoutPieces);
        test("Promise 17: SIZE 1 .. 60", BoundsTest::drillOneTo60);
        test("Promise 18: REACH 1 .. 100", BoundsTest::reachOneTo100);
        test("Promise 19: NOT, no PIECES, HOLES or NOTES", BoundsTest::roundWithoutAll);
        test("Promise 10: ROUNDS that did something since clear()", BoundsTest::roundsSinceClear);
        test("Promises 20 to 22: SHELVES 0, 1", BoundsTest::shelvesNoughtAndOne);
        test("Promises 21, 22: NOT, it is empty", BoundsTest::emptyShelves);
        test("Promises 20, 21: a full one", BoundsTest::keepAndBackFull);
        test("Promise 21: back to less", BoundsTest::backToLess);
        test("Promise 21: THE PIPE becomes what the SHELF has", BoundsTest::nothingLeftByBack);
        test("Promise 22: all that may differ", BoundsTest::differsOfAll);
        test("Promise 22: by numbers", BoundsTest::differsByNumbers);
    }

    public static void main(String[] args) {
        tests();
        System.out.println(sentences + " sentences, " + checks + " checks, " + wrong + " wrong");
        if (wrong != 0) System.exit(1);
    }
}

import java.util.LinkedHashMap;
import java.util.Map;
import java.util.function.ToLongFunction;

/** The edges that the document tells of SHEETS, TELLING, TRACE, kinds, FAULTS and what is told. */
public final class EdgesOfSheetsTest extends Bench {
    /** A call, and the fault that it comes to. */
    private record Met(String call, int fault, ToLongFunction<FeltZither> asked) {
    }

    public static void main(String[] args) {
        aNewObject();
        objectsHaveNothingInCommon();
        sheetsAre0To3();
        rowsAre0To64();
        lanesAre0To2();
        aNewRow();
        nothingToLose();
        cellsThatAreThere();
        cutToItsLane();
        takenAsItsLane();
        firstThatIsComeTo();
        tellingByHand();
        tellingAChords();
        tellingASevenths();
        named();
        takenAsAKind();
        traceWraps();
        traceIsLeftByNoOther();
        faultAheadOfAny();
        faultOfCallsThatNameOne();
        faultIsLeftByNoOther();
        toldWhat();
        toldAtMost();
        CHECK.finish();
    }

    private static void aNewObject() {
        FeltZither x = new FeltZither();
        for (int what = 0; what <= 6; what++) {
            due("a new object has none: " + what, x.told(what), 0);
        }
        due("no BARS pressed, no CLASSES", x.classes(0), 0);
        due("no OFFERS, no SONGS: FEWEST", x.fewest(), 0);
        due("MOST", x.most(12), 0);
        due("WAY", x.way(), 0);
        due("LEAST WAY", x.least(), 0);
        due("nothing to be put", x.arrange(), 0);
        due("no SONGS", x.playable(), 0);
        due("no FELTS", x.worn(), 0);
        due("no ROWS", x.unhear(), 0);
        due("TRACE is 0 at first", x.trace(), 0);
        due("the FAULT is 0 ahead of any", x.fault(), 0);
        for (int k = 0; k < 4; k++) {
            due("SHEETS have nothing at first", x.lose(k), 0);
            due("SHEETS have nothing at first", x.put(k, 0, 0), NULL);
        }
        due("LOST is the least long", FeltZither.LOST, LOST);
        due("NONE is -9", FeltZither.NONE, NONE);
        x.string(0, false);
        x.name(0);
        x.sheet(0, 0, 1);
        FeltZither y = new FeltZither();
        due("another new object: no STRINGS", y.told(0), 0);
        due("another new object: nothing on its SHEETS", y.lose(0), 0);
    }

    private static void objectsHaveNothingInCommon() {
        FeltZither x = new FeltZither();
        FeltZither y = new FeltZither();
        x.string(24, false);
        y.string(60, true);
        x.blank();
        y.bar(C_SEVENTH);
        x.name(0);
        y.name(0);
        x.sheet(0, 0, 2);
        y.sheet(0, 1, 0);
        x.put(0, 0, 7);
        y.put(0, 0, 9);
        due("each has its own TRACE", x.trace(), 4);
        due("each has its own TRACE, the other", y.trace(), 5);
        due("each has its own FAULT", x.fault(), 0);
        due("each has its own FAULT, the other", y.fault(), 3);
        due("each has its own STRINGS", x.ofString(0, 0), 24);
        due("each has its own STRINGS, the other", y.ofString(0, 0), 60);
        due("each has its own BARS", x.ofBar(0, 1), NONE);
        due("each has its own SHEETS", x.at(0, 0, 0), 7);
        x.song(0, 0, 0, 1);
        x.offer(F);
        x.heard(0, 0, 0, 1);
        for (int what = 3; what <= 5; what++) {
            due("one of the one: " + what, x.told(what), 1);
            due("none of the other: " + what, y.told(what), 0);
        }
    }

    private static void sheetsAre0To3() {
        FeltZither x = new FeltZither();
        takesOnly("sheet: SHEETS 0 .. 3", 0, 3, UNKNOWN, k -> x.sheet(k, 1, 1));
        x.sheet(1, 1, 1);
        x.sheet(2, 1, 1);
        takesOnly("put: SHEETS 0 .. 3", 0, 3, UNKNOWN, k -> x.put(k, 0, k));
        takesOnly("at: SHEETS 0 .. 3", 0, 3, LOST, k -> x.at(k, 0, 1));
        takesOnly("lose: SHEETS 0 .. 3", 0, 3, UNKNOWN, x::lose);
        due("the first was lost", x.lose(0), 0);
        due("the last was lost", x.lose(3), 0);
        due("the second was not", x.lose(1), 1);
        FeltZither y = new FeltZither();
        for (int k = 0; k < 4; k++) {
            y.sheet(k, 2, 64);
            y.put(k, 63, 100 + k);
        }
        for (int k = 0; k < 4; k++) {
            due("each SHEET has a row of its own", y.at(k, 63, 2), 100 + k);
        }
    }

    private static void rowsAre0To64() {
        FeltZither x = new FeltZither();
        due("a row of 0", x.sheet(0, 0, 0), 1);
        due("a row of 0 has no cell", x.put(0, 0, 1), INDEX);
        due("a row of 0 is not nothing", x.lose(0), 1);
        due("a row of 64", x.sheet(0, 0, 64), 1);
        due("its last cell", x.put(0, 63, 7), 1);
        due("no cell behind it", x.put(0, 64, 7), INDEX);
        due("OUTSIDE: n above 64", x.sheet(0, 0, 65), OUTSIDE);
        due("no FAULT", x.fault(), 0);
        due("OUTSIDE: n far above 64", x.sheet(0, 0, MAX), OUTSIDE);
        due("OUTSIDE: n above 64 by the bytes' way round", x.sheet(0, 0, 256), OUTSIDE);
        due("SIZE: a length below 0", x.sheet(0, 0, -1), SIZE);
        due("its FAULT", x.fault(), 4);
        due("SIZE: a length far below 0", x.sheet(0, 0, MIN), SIZE);
        due("the row is as it was", x.at(0, 63, 0), 7);
        due("SIZE, where there is nothing", x.sheet(3, 0, -1), SIZE);
        due("nothing came", x.lose(3), 0);
    }

    private static void lanesAre0To2() {
        FeltZither x = new FeltZither();
        takesOnly("sheet: OUTSIDE: lane", 0, 2, OUTSIDE, lane -> x.sheet(0, lane, 1));
        due("the last that was taken", x.at(0, 0, 2), 0);
        for (int lane = 0; lane < 3; lane++) {
            x.sheet(0, lane, 1);
            x.put(0, 0, 5);
            for (int as = 0; as < 3; as++) {
                due("taken as a row of a LANE", x.at(0, 0, as), as == lane ? 5 : LOST);
                due("another LANE is CAST", x.fault(), as == lane ? 0 : 2);
            }
            due("LOST: OUTSIDE: lane above", x.at(0, 0, 3), LOST);
            due("no FAULT", x.fault(), 0);
            x.at(0, 1, lane);
            due("LOST: OUTSIDE: lane below", x.at(0, 0, -1), LOST);
            due("no FAULT", x.fault(), 0);
            due("LOST: OUTSIDE: the last int", x.at(0, 0, MAX), LOST);
            due("LOST: OUTSIDE: the least int", x.at(0, 0, MIN), LOST);
            due("no FAULT", x.fault(), 0);
        }
    }

    private static void aNewRow() {
        FeltZither x = new FeltZither();
        x.sheet(0, 2, 64);
        for (int i = 0; i < 64; i++) {
            due("0 at first", x.at(0, i, 2), 0);
            x.put(0, i, i + 1);
        }
        due("a new row", x.sheet(0, 2, 64), 1);
        for (int i = 0; i < 64; i++) {
            due("0 at first, again", x.at(0, i, 2), 0);
        }
        x.put(0, 9, 9);
        due("a shorter one", x.sheet(0, 2, 9), 1);
        due("INDEX: no longer there", x.put(0, 9, 9), INDEX);
        due("a longer one", x.sheet(0, 2, 10), 1);
        due("0 at first, not what was there", x.at(0, 9, 2), 0);
        x.lose(0);
        due("behind what was lost", x.sheet(0, 2, 10), 1);
        due("0 at first", x.at(0, 8, 2), 0);
        due("of another LANE", x.sheet(0, 1, 10), 1);
        due("it is no longer of the one", x.at(0, 0, 2), LOST);
        due("but of the other", x.at(0, 0, 1), 0);
    }

    private static void nothingToLose() {
        FeltZither x = new FeltZither();
        for (int k = 0; k < 4; k++) {
            due("0: it had nothing", x.lose(k), 0);
            x.sheet(k, k % 3, k);
            due("1: it had a row of " + k, x.lose(k), 1);
            due("0: it has nothing any more", x.lose(k), 0);
            due("NULL: there is nothing", x.put(k, 0, 0), NULL);
            due("LOST: there is nothing", x.at(k, 0, k % 3), LOST);
            due("NULL", x.fault(), 1);
        }
    }

    private static void cellsThatAreThere() {
        FeltZither x = new FeltZither();
        for (int many : new int[] {0, 1, 2, 63, 64}) {
            x.sheet(0, 0, many);
            takesOnly("put: a cell of " + many, 0, many - 1, INDEX, i -> x.put(0, i, 1));
            takesOnly("at: a cell of " + many, 0, many - 1, LOST, i -> x.at(0, i, 0));
            due("INDEX", x.fault(), 3);
            x.at(0, MAX, 0);
            due("INDEX: the last int", x.fault(), 3);
            x.at(0, many, 0);
            due("INDEX: the end", x.fault(), 3);
        }
    }

    private static void cutToItsLane() {
        int[][] wants = {
            {0, 0, 0}, {1, 1, 1}, {-1, -1, -1}, {127, 127, 127}, {128, -128, 128}, {-128, -128, -128},
            {-129, 127, -129}, {255, -1, 255}, {256, 0, 256}, {-256, 0, -256}, {383, 127, 383},
            {32767, -1, 32767}, {32768, 0, -32768}, {-32768, 0, -32768}, {-32769, -1, 32767},
            {65535, -1, -1}, {65536, 0, 0}, {98304, 0, -32768}, {MAX, -1, -1}, {MIN, 0, 0},
            {MAX - 128, 127, -129}, {MIN + 128, -128, 128}
        };
        FeltZither x = new FeltZither();
        for (int lane = 0; lane < 3; lane++) {
            x.sheet(lane, lane, 3);
        }
        for (int[] want : wants) {
            for (int lane = 0; lane < 3; lane++) {
                due("put", x.put(lane, 1, want[0]), 1);
                int cell = lane == 2 ? want[0] : want[1 + lane];
                due("cut to its LANE (with its sign): " + want[0], x.at(lane, 1, lane), cell);
            }
        }
        due("the cell ahead is as it was", x.at(0, 0, 0), 0);
        due("the cell behind is as it was", x.at(2, 2, 2), 0);
    }

    private static void takenAsItsLane() {
        FeltZither x = new FeltZither();
        x.sheet(0, 2, 1);
        x.put(0, 0, MIN);
        due("the least int is not LOST", x.at(0, 0, 2), MIN);
        due("no FAULT", x.fault(), 0);
        x.put(0, 0, -1);
        due("-1 is not UNKNOWN", x.at(0, 0, 2), -1);
        due("no FAULT", x.fault(), 0);
    }

    /** Of a call the first that is come to, in the order told. */
    private static void firstThatIsComeTo() {
        FeltZither x = new FeltZither();
        due("sheet: UNKNOWN ahead of OUTSIDE (lane)", x.sheet(4, 3, 0), UNKNOWN);
        due("sheet: UNKNOWN ahead of OUTSIDE (n)", x.sheet(-1, 0, 65), UNKNOWN);
        due("sheet: UNKNOWN ahead of SIZE", x.sheet(4, 0, -1), UNKNOWN);
        due("sheet: OUTSIDE (lane) ahead of SIZE", x.sheet(0, 3, -1), OUTSIDE);
        due("sheet: OUTSIDE (lane below) ahead of SIZE", x.sheet(0, -1, -1), OUTSIDE);
        due("refused: no FAULT", x.fault(), 0);
        due("put: UNKNOWN ahead of INDEX", x.put(4, -1, 0), UNKNOWN);
        due("refused: no FAULT", x.fault(), 0);
        due("put: NULL ahead of INDEX", x.put(0, -1, 0), NULL);
        due("its FAULT", x.fault(), 1);
        due("at: UNKNOWN ahead of OUTSIDE", x.at(4, 0, 3), LOST);
        due("refused: no FAULT", x.fault(), 0);
        x.put(0, 0, 0);
        due("at: UNKNOWN, where there is nothing", x.at(-1, 0, 0), LOST);
        due("refused: no FAULT", x.fault(), 0);
        x.put(0, 0, 0);
        due("at: OUTSIDE (lane) ahead of NULL", x.at(0, 0, 3), LOST);
        due("refused: no FAULT", x.fault(), 0);
        due("at: NULL ahead of INDEX", x.at(0, -1, 0), LOST);
        due("nothing is no CAST", x.fault(), 1);
        x.sheet(0, 1, 2);
        due("at: CAST ahead of INDEX", x.at(0, 2, 0), LOST);
        due("its FAULT", x.fault(), 2);
        due("at: OUTSIDE (lane) ahead of INDEX", x.at(0, 2, 3), LOST);
        due("refused: no FAULT", x.fault(), 0);
        due("at: INDEX", x.at(0, 2, 1), LOST);
        due("its FAULT", x.fault(), 3);
        due("as: UNKNOWN ahead of OUTSIDE", x.as(0, 3), UNKNOWN);
        x.blank();
        due("as: OUTSIDE ahead of CAST", x.as(0, 3), OUTSIDE);
        due("refused: no FAULT", x.fault(), 0);
        due("as: CAST", x.as(0, 2), CAST);
        due("its FAULT", x.fault(), 2);
    }

    private static void tellingByHand() {
        FeltZither x = chromatic(36);
        x.blank();
        due("how many FELTS it has: 0", x.tell(0), 0);
        due("TRACE: 1", x.trace(), 1);
        for (int s = 0; s < 36; s++) {
            x.felt(0, s, true);
        }
        x.wear(0, 0, true);
        due("how many FELTS it has: 36, WORN ones, too", x.tell(0), 36);
        due("TRACE: 1, 1", x.trace(), 32);
    }

    private static void tellingAChords() {
        FeltZither x = new FeltZither();
        x.bar(0);
        x.bar(95);
        due("what (1) gives, and its CHORD: 0 and 0", x.tell(0), 0);
        due("TRACE: 2, 1", x.trace(), 2 * 31 + 1);
        due("what (1) gives, and its CHORD: 0 and 95", x.tell(1), 95);
        x.string(25, false);
        x.felt(1, 0, true);
        due("with a FELT that was put by hand", x.tell(1), 96);
        x.wear(1, 0, true);
        due("and is WORN", x.tell(1), 96);
    }

    private static void tellingASevenths() {
        int[] chords = {24, 35, 36, 47, 72, 83};
        FeltZither x = chromatic(24);
        int trace = 0;
        for (int b = 0; b < 6; b++) {
            x.bar(chords[b]);
            due("what a CHORD's gives, and what (1) gives", x.tell(b), 16 + chords[b] + 16);
            for (int body : new int[] {3, 2, 1, 1}) {
                trace = 31 * trace + body;
            }
            due("TRACE: 3, 2, 1, 1", x.trace(), trace);
        }
        FeltZither y = chromatic(12);
        int[] others = {23, 48, 71, 84};
        trace = 0;
        for (int b = 0; b < 4; b++) {
            y.bar(others[b]);
            due("next to SEVENTHS: a CHORD's", y.tell(b), 9 + others[b]);
            trace = (31 * trace + 2) * 31 + 1;
            due("TRACE: 2, 1", y.trace(), trace);
        }
    }

    private static void named() {
        FeltZither x = new FeltZither();
        int trace = 0;
        for (int b = 0; b < 12; b++) {
            int kind = b % 3;
            due("a BAR", kind == 0 ? x.blank() : x.bar(kind == 1 ? C : C_SEVENTH), b);
            due("NAMED: its number, and 10; SEVENTHS: 77", x.name(b), kind == 2 ? 77 : b + 10);
            trace = 31 * trace + (kind == 2 ? 5 : 4);
            due("by a lent body (4); SEVENTHS by their own (5)", x.trace(), trace);
        }
        x.change(0, 3);
        due("by number, not by PLACE", x.name(0), 10);
    }

    private static void takenAsAKind() {
        FeltZither x = new FeltZither();
        int[] chords = {0, 23, 24, 47, 48, 71, 72, 83, 84, 95};
        int[] kinds = {1, 1, 2, 2, 1, 1, 2, 2, 1, 1};
        x.blank();
        bars(x, chords);
        due("one cut is one cut", x.as(0, 0), 1);
        due("CAST: one cut is no CHORD's", x.as(0, 1), CAST);
        due("its FAULT", x.fault(), 2);
        due("CAST: one cut is no SEVENTH's", x.as(0, 2), CAST);
        for (int k = 0; k < 10; k++) {
            due("each is one cut, too", x.as(k + 1, 0), 1);
            due("a SEVENTH's is a CHORD's", x.as(k + 1, 1), 1);
            due("came to none", x.fault(), 0);
            due("CAST: it is no SEVENTH's", x.as(k + 1, 2), kinds[k] == 2 ? 1 : CAST);
            due("its FAULT", x.fault(), kinds[k] == 2 ? 0 : 2);
        }
        takesOnly("as: OUTSIDE: a kind", 0, 2, OUTSIDE, kind -> x.as(10, kind));
        takesOnly("as: OUTSIDE: a kind, of one cut", 0, 2, OUTSIDE, kind -> x.as(0, kind));
        due("refused: no FAULT", x.fault(), 0);
    }

    private static void traceWraps() {
        FeltZither x = new FeltZither();
        x.blank();
        x.bar(C_SEVENTH);
        due("0 at first", x.trace(), 0);
        long exact = 0;
        int[] wants = {5, 160, 4965, 153920, 4771525, 147917280, 290468389, 414585472};
        for (int k = 0; k < 8; k++) {
            x.name(1);
            exact = 31 * exact + 5;
            due("31 times it and the number: " + exact, x.trace(), wants[k]);
        }
        due("it wraps", exact != wants[7] ? 1 : 0, 1);
        int trace = wants[7];
        boolean below = false;
        for (int k = 0; k < 100; k++) {
            x.tell(0);
            trace = 31 * trace + 1;
            below |= trace < 0;
            due("it wraps, below 0, too", x.trace(), trace);
        }
        CHECK.holds("it was below 0", below);
    }

    private static void traceIsLeftByNoOther() {
        FeltZither x = new FeltZither();
        x.blank();
        x.name(0);
        for (Map.Entry<String, ToLongFunction<FeltZither>> call : callsThatNameNoFault().entrySet()) {
            if (!call.getKey().equals("tell") && !call.getKey().equals("name")) {
                call.getValue().applyAsLong(x);
                due("no body is begun by " + call.getKey(), x.trace(), 4);
            }
        }
        due("UNKNOWN: no body is begun", x.tell(12), UNKNOWN);
        due("UNKNOWN: no body is begun", x.name(-1), UNKNOWN);
        x.as(0, 0);
        x.sheet(0, 0, 2);
        x.put(0, 0, 1);
        x.at(0, 0, 0);
        x.song(0, 0, 0, 1);
        x.heard(0, 0, 0, 0);
        due("TRACE is as it was", x.trace(), 4);
    }

    private static void faultAheadOfAny() {
        FeltZither x = new FeltZither();
        due("0 ahead of any", x.fault(), 0);
        x.told(9);
        x.lose(9);
        x.tell(0);
        due("0 ahead of any that names one", x.fault(), 0);
    }

    /** For each call that names faults: what is told behind a fault, an answer, a refusal. */
    private static void faultOfCallsThatNameOne() {
        Met[] all = {
            new Met("song: NULL", 1, y -> y.song(1, 0, 0, 1)), new Met("song: CAST", 2, y -> y.song(0, 1, 0, 1)),
            new Met("song: INDEX", 3, y -> y.song(0, 0, 1, 1)), new Met("song: SIZE", 4, y -> y.song(0, 0, 0, -1)),
            new Met("song: its number", 0, y -> y.song(0, 0, 0, 1)),
            new Met("song: UNKNOWN", 0, y -> y.song(4, 0, 0, 1)),
            new Met("song: OUTSIDE: lane", 0, y -> y.song(0, 3, 0, 1)),
            new Met("song: OUTSIDE: n", 0, y -> y.song(0, 0, 0, 0)),
            new Met("heard: NULL", 1, y -> y.heard(0, 1, 0, 0)), new Met("heard: CAST", 2, y -> y.heard(0, 0, 1, 0)),
            new Met("heard: INDEX", 3, y -> y.heard(0, 0, 0, 2)),
            new Met("heard: its number", 0, y -> y.heard(0, 0, 0, 0)),
            new Met("heard: UNKNOWN", 0, y -> y.heard(0, 4, 0, 0)),
            new Met("heard: OUTSIDE: set", 0, y -> y.heard(4, 0, 0, 0)),
            new Met("heard: OUTSIDE: lane", 0, y -> y.heard(0, 0, 3, 0)),
            new Met("sheet: SIZE", 4, y -> y.sheet(2, 0, -1)), new Met("sheet: 1", 0, y -> y.sheet(2, 0, 1)),
            new Met("sheet: UNKNOWN", 0, y -> y.sheet(4, 0, 1)),
            new Met("sheet: OUTSIDE: lane", 0, y -> y.sheet(2, 3, 1)),
            new Met("sheet: OUTSIDE: n", 0, y -> y.sheet(2, 0, 65)),
            new Met("put: NULL", 1, y -> y.put(1, 0, 1)), new Met("put: INDEX", 3, y -> y.put(0, 2, 1)),
            new Met("put: 1", 0, y -> y.put(0, 0, 1)), new Met("put: UNKNOWN", 0, y -> y.put(4, 0, 1)),
            new Met("at: NULL", 1, y -> y.at(1, 0, 0)), new Met("at: CAST", 2, y -> y.at(0, 0, 1)),
            new Met("at: INDEX", 3, y -> y.at(0, 2, 0)), new Met("at: a cell", 0, y -> y.at(0, 0, 0)),
            new Met("at: UNKNOWN", 0, y -> y.at(4, 0, 0)), new Met("at: OUTSIDE: lane", 0, y -> y.at(0, 0, 3)),
            new Met("as: CAST", 2, y -> y.as(0, 1)), new Met("as: 1", 0, y -> y.as(1, 1)),
            new Met("as: UNKNOWN", 0, y -> y.as(2, 0)), new Met("as: OUTSIDE", 0, y -> y.as(1, 3))
        };
        FeltZither x = strings(30);
        x.blank();
        x.bar(C);
        fill(x, 0, 0, 2, 2);
        for (Met met : all) {
            x.put(1, 0, 0);
            met.asked().applyAsLong(x);
            due("the FAULT of the latest call that names one, behind NULL: " + met.call(), x.fault(), met.fault());
            x.put(0, 2, 0);
            met.asked().applyAsLong(x);
            due("the FAULT of the latest call that names one, behind INDEX: " + met.call(), x.fault(), met.fault());
            due("asked again: " + met.call(), x.fault(), met.fault());
        }
    }

    /** One call of each kind that names no fault, with numbers that it takes. */
    private static Map<String, ToLongFunction<FeltZither>> callsThatNameNoFault() {
        Map<String, ToLongFunction<FeltZither>> calls = new LinkedHashMap<>();
        calls.put("string", x -> x.string(25, false));
        calls.put("tune", x -> x.tune(0, 26));
        calls.put("bar", x -> x.bar(C));
        calls.put("blank", x -> x.blank());
        calls.put("felt", x -> x.felt(0, 0, true));
        calls.put("wear", x -> x.wear(0, 0, true));
        calls.put("ofString", x -> x.ofString(0, 0));
        calls.put("ofBar", x -> x.ofBar(0, 0));
        calls.put("has", x -> x.has(0, 0));
        calls.put("sounds", x -> x.sounds(1, 0));
        calls.put("classes", x -> x.classes(1));
        calls.put("chord", x -> x.chord(C));
        calls.put("gives", x -> x.gives(1, C));
        calls.put("lack", x -> x.lack(C));
        calls.put("hold", x -> x.hold(C));
        calls.put("holds", x -> x.holds(1));
        calls.put("strum", x -> x.strum(1, 3));
        calls.put("step", x -> x.step(0, 0, 0));
        calls.put("key", x -> x.key(0, 1));
        calls.put("misses", x -> x.misses(0, 0));
        calls.put("bestKey", x -> x.bestKey(0));
        calls.put("playable", x -> x.playable());
        calls.put("offer", x -> x.offer(C));
        calls.put("serves", x -> x.serves(1));
        calls.put("fewest", x -> x.fewest());
        calls.put("most", x -> x.most(1));
        calls.put("change", x -> x.change(0, 1));
        calls.put("way", x -> x.way());
        calls.put("least", x -> x.least());
        calls.put("arrange", x -> x.arrange());
        calls.put("trouble", x -> x.trouble(0));
        calls.put("grip", x -> x.grip(0, 0));
        calls.put("worn", x -> x.worn());
        calls.put("sure", x -> x.sure(0, 0));
        calls.put("unhear", x -> x.unhear());
        calls.put("otherwise", x -> x.otherwise(0, 1));
        calls.put("best", x -> x.best(0));
        calls.put("lose", x -> x.lose(3));
        calls.put("tell", x -> x.tell(0));
        calls.put("name", x -> x.name(0));
        calls.put("trace", x -> x.trace());
        calls.put("fault", x -> x.fault());
        calls.put("told", x -> x.told(0));
        calls.put("build", x -> x.build(1));
        return calls;
    }

    private static void faultIsLeftByNoOther() {
        Map<String, ToLongFunction<FeltZither>> calls = callsThatNameNoFault();
        due("fifty calls, six of which name FAULTS", calls.size(), 44);
        FeltZither x = new FeltZither();
        for (Map.Entry<String, ToLongFunction<FeltZither>> call : calls.entrySet()) {
            x.put(0, 0, 0);
            call.getValue().applyAsLong(x);
            due("refused or not, it names no FAULT: " + call.getKey(), x.fault(), 1);
        }
        FeltZither y = strings(24, 28, 31);
        y.blank();
        y.offer(C);
        write(y, C, 24);
        y.sheet(0, 0, 1);
        for (Map.Entry<String, ToLongFunction<FeltZither>> call : calls.entrySet()) {
            y.put(0, 1, 0);
            call.getValue().applyAsLong(y);
            due("it names no FAULT: " + call.getKey(), y.fault(), 3);
        }
    }

    private static void toldWhat() {
        FeltZither x = new FeltZither();
        takesOnly("told: what", 0, 6, OUTSIDE, x::told);
        x.string(0, false);
        x.string(12, false);
        x.string(1, true);
        x.string(59, false);
        x.string(2, true);
        due("0 STRINGS", x.told(0), 5);
        due("1 FREE ones", x.told(1), 2);
        due("6 classes that STRINGS not FREE have", x.told(6), 2);
        x.bar(C);
        x.blank();
        x.blank();
        due("2 BARS", x.told(2), 3);
        due("6 classes, whatever BARS hush", x.told(6), 2);
        write(x, C, -1);
        due("3 SONGS", x.told(3), 1);
        offers(x, C, F, G, A_MINOR);
        due("4 OFFERS", x.told(4), 4);
        hear(x, 0, 1, 1, 1, 1, 1);
        hear(x, 0, 1, 1, 1, 1, 1);
        due("5 ROWS HEARD", x.told(5), 2);
        x.tune(3, 24);
        due("6 classes of now", x.told(6), 1);
        x.unhear();
        due("5 no ROWS HEARD", x.told(5), 0);
        x.build(3);
        due("2 BARS that were built", x.told(2), 2);
    }

    private static void toldAtMost() {
        FeltZither x = new FeltZither();
        for (int s = 0; s < 36; s++) {
            x.string(s, s >= 12);
        }
        for (int k = 0; k < 12; k++) {
            x.offer(k);
        }
        x.build(4095);
        x.sheet(0, 0, 64);
        for (int g = 0; g < 8; g++) {
            x.song(0, 0, 0, 24);
        }
        for (int row = 0; row < 20; row++) {
            x.heard(4095, 0, 0, 28);
        }
        int[] wants = {36, 24, 12, 8, 12, 20, 12};
        for (int what = 0; what <= 6; what++) {
            due("as many as there may be: " + what, x.told(what), wants[what]);
        }
    }
}

/** The edges that the document tells of ROWS HEARD, and of what they EXPLAIN. */
public final class EdgesOfHearingTest extends Bench {
    public static void main(String[] args) {
        rowsAre20AtMost();
        rowsAreNumberedByThoseAhead();
        oneCellForEachString();
        cellsOfNone();
        cellsAre0To2();
        cellsOfALane();
        firstThatIsComeTo();
        aRowIsNotItsSheet();
        nothingHeard();
        wornInTruthIsNotAsked();
        feltsAsTheyAreWhenAsked();
        barsThatCameLater();
        stringsThatCameLater();
        freeStringsAlwaysSound();
        nothingPressed();
        fewestWornOfOneRow();
        fewestWornOfSeveralRows();
        mostThatAreWorn();
        eachBarHushesByItself();
        nobodyKnows();
        sureToBeWorn();
        sureToBeWhole();
        open();
        sureOfNothing();
        unhearTellsHowMany();
        CHECK.finish();
    }

    private static void rowsAre20AtMost() {
        FeltZither x = strings(30);
        x.sheet(0, 0, 1);
        x.blank();
        x.felt(0, 0, true);
        for (int row = 0; row < 20; row++) {
            due("ROWS HEARD are numbered by how many there are ahead", x.heard(1, 0, 0, 0), row);
        }
        due("ROWS HEARD, 20 at most: a 21st", x.heard(1, 0, 0, 0), FULL);
        due("FULL is no FAULT", x.fault(), 0);
        due("ROWS HEARD, 20 at most: there are", x.told(5), 20);
        x.put(0, 0, 3);
        due("heard: OUTSIDE (a cell) ahead of FULL", x.heard(1, 0, 0, 0), OUTSIDE);
        due("heard: OUTSIDE (a set) ahead of FULL", x.heard(2, 0, 0, 0), OUTSIDE);
        due("heard: OUTSIDE (lane) ahead of FULL", x.heard(1, 0, 3, 0), OUTSIDE);
        due("heard: INDEX ahead of FULL", x.heard(1, 0, 0, 1), INDEX);
        due("heard: CAST ahead of FULL", x.heard(1, 0, 1, 0), CAST);
        due("heard: NULL ahead of FULL", x.heard(1, 1, 0, 0), NULL);
        due("heard: UNKNOWN ahead of FULL", x.heard(1, 4, 0, 0), UNKNOWN);
        due("none came, none went", x.unhear(), 20);
    }

    private static void rowsAreNumberedByThoseAhead() {
        FeltZither x = strings(30);
        x.sheet(0, 0, 1);
        x.blank();
        for (int row = 0; row < 20; row++) {
            x.heard(0, 0, 0, 0);
        }
        due("all go", x.unhear(), 20);
        due("at most, not ever: the first is 0 again", x.heard(0, 0, 0, 0), 0);
        x.build(0);
        due("none ahead behind build", x.heard(0, 0, 0, 0), 0);
        for (int row = 1; row < 20; row++) {
            due("20 again", x.heard(0, 0, 0, 0), row);
        }
        due("a 21st again", x.heard(0, 0, 0, 0), FULL);
    }

    private static void oneCellForEachString() {
        FeltZither x = chromatic(36);
        x.blank();
        x.sheet(0, 0, 64);
        takesOnly("heard: 36 cells of 64, from i on", 0, 28, INDEX, i -> x.heard(1, 0, 0, i));
        x.sheet(0, 0, 36);
        takesOnly("heard: 36 cells of 36, from i on", 0, 0, INDEX, i -> x.heard(1, 0, 0, i));
        x.sheet(0, 0, 35);
        due("INDEX: one cell is not there", x.heard(1, 0, 0, 0), INDEX);
        due("its FAULT", x.fault(), 3);
        x.sheet(0, 0, 0);
        due("INDEX: a row of 0", x.heard(1, 0, 0, 0), INDEX);
        FeltZither y = chromatic(2);
        y.blank();
        y.felt(0, 0, true);
        y.felt(0, 1, true);
        fill(y, 0, 2, 9, 1, 0, 9);
        due("from i on: the first cell is another's", y.heard(1, 0, 2, 1), 0);
        due("the first STRING is WORN", y.sure(0, 0), 1);
        due("the second is whole", y.sure(0, 1), 0);
        due("OUTSIDE: a cell that is taken", y.heard(1, 0, 2, 0), OUTSIDE);
        due("OUTSIDE: the last cell that is taken", y.heard(1, 0, 2, 2), OUTSIDE);
        due("INDEX ahead of OUTSIDE (a cell)", y.heard(1, 0, 2, 3), INDEX);
    }

    /** INDEX, of cells from i on, also where none of them is taken. */
    private static void cellsOfNone() {
        FeltZither x = new FeltZither();
        x.sheet(0, 1, 5);
        takesOnly("heard: i is 0 .. how many there are, if none is taken", 0, 5, INDEX, i -> x.heard(0, 0, 1, i));
        due("two ROWS of no STRINGS", x.told(5), 2);
        x.sheet(0, 1, 0);
        takesOnly("heard: i is 0 .. 0 in a row of 0", 0, 0, INDEX, i -> x.heard(0, 0, 1, i));
        x.sheet(0, 1, 64);
        takesOnly("heard: i is 0 .. 64", 0, 64, INDEX, i -> x.heard(0, 0, 1, i));
        due("they EXPLAIN themselves", x.worn(), 0);
        due("NULL, though none is taken", x.heard(0, 1, 1, 0), NULL);
        due("CAST, though none is taken", x.heard(0, 0, 0, 0), CAST);
    }

    private static void cellsAre0To2() {
        FeltZither x = strings(30, 31, 32);
        x.blank();
        x.sheet(0, 2, 3);
        for (int cell = 0; cell < 3; cell++) {
            int i = cell;
            takesOnly("heard: a cell is 0 .. 2: cell " + i, 0, 2, OUTSIDE, told -> {
                x.put(0, i, told);
                return x.heard(0, 0, 2, 0);
            });
            x.put(0, i, 2);
        }
        due("OUTSIDE is no FAULT", x.fault(), 0);
        due("as many ROWS as were taken", x.told(5), 6);
    }

    private static void cellsOfALane() {
        FeltZither x = strings(30);
        x.blank();
        x.felt(0, 0, true);
        x.sheet(0, 0, 1);
        x.put(0, 0, 257);
        due("a cell cut to a byte: 1", x.heard(1, 0, 0, 0), 0);
        due("it did SOUND", x.worn(), 1);
        x.sheet(0, 1, 1);
        x.put(0, 0, 257);
        due("not cut to a byte", x.heard(1, 0, 1, 0), OUTSIDE);
        x.put(0, 0, 65538);
        due("a cell cut to a short: 2", x.heard(1, 0, 1, 0), 1);
        x.sheet(0, 2, 1);
        x.put(0, 0, 65538);
        due("not cut to a short", x.heard(1, 0, 2, 0), OUTSIDE);
    }

    /** CAST, NULL, INDEX, OUTSIDE, in the order told; UNKNOWN and OUTSIDE (set, lane) come ahead. */
    private static void firstThatIsComeTo() {
        FeltZither x = strings(30);
        x.blank();
        x.sheet(0, 1, 1);
        takesOnly("heard: UNKNOWN: SHEETS 0 .. 3", 0, 3, UNKNOWN, sheet -> x.heard(1, sheet, 1, 0));
        takesOnly("heard: OUTSIDE: lane", 0, 2, OUTSIDE, lane -> x.heard(1, 0, lane, 0));
        takesOnly("heard: OUTSIDE: lane, ahead of NULL", 0, 2, OUTSIDE, lane -> x.heard(1, 1, lane, 0));
        due("UNKNOWN ahead of OUTSIDE (set)", x.heard(2, 4, 1, 0), UNKNOWN);
        due("UNKNOWN ahead of OUTSIDE (lane)", x.heard(1, -1, 3, 0), UNKNOWN);
        due("OUTSIDE (set) ahead of CAST", x.heard(2, 0, 0, 0), OUTSIDE);
        due("OUTSIDE (set) ahead of NULL", x.heard(2, 1, 1, 0), OUTSIDE);
        due("OUTSIDE (set) ahead of INDEX", x.heard(2, 0, 1, 1), OUTSIDE);
        due("OUTSIDE (lane) ahead of INDEX", x.heard(1, 0, 3, -1), OUTSIDE);
        due("refused: no FAULT", x.fault(), 0);
        due("CAST ahead of INDEX", x.heard(1, 0, 2, 1), CAST);
        due("its FAULT", x.fault(), 2);
        due("NULL ahead of INDEX", x.heard(1, 1, 1, -1), NULL);
        due("its FAULT", x.fault(), 1);
        for (int lane = 0; lane < 3; lane++) {
            due("nothing is no CAST, in any LANE: " + lane, x.heard(1, 1, lane, 0), NULL);
        }
        x.put(0, 0, 3);
        due("CAST ahead of OUTSIDE (a cell)", x.heard(1, 0, 0, 0), CAST);
        due("OUTSIDE: a cell", x.heard(1, 0, 1, 0), OUTSIDE);
        x.lose(0);
        due("what was lost is NULL", x.heard(1, 0, 1, 0), NULL);
    }

    private static void aRowIsNotItsSheet() {
        FeltZither x = strings(30);
        x.blank();
        x.felt(0, 0, true);
        hear(x, 1, 1);
        x.put(2, 0, 0);
        due("the ROW stays as it was heard", x.worn(), 1);
        x.lose(2);
        due("the ROW stays, though the SHEET is lost", x.worn(), 1);
    }

    private static void nothingHeard() {
        FeltZither x = new FeltZither();
        due("no ROWS, no FELTS: none need be WORN", x.worn(), 0);
        x.string(30, false);
        x.blank();
        x.felt(0, 0, true);
        due("no ROWS: none need be WORN", x.worn(), 0);
        due("no ROWS: a FELT is OPEN", x.sure(0, 0), 2);
        x.wear(0, 0, true);
        due("no ROWS: none need be WORN, in truth it is", x.worn(), 0);
        due("no ROWS: OPEN, though in truth it is WORN", x.sure(0, 0), 2);
    }

    private static void wornInTruthIsNotAsked() {
        FeltZither x = strings(30, 31);
        x.blank();
        x.felt(0, 0, true);
        x.felt(0, 1, true);
        x.wear(0, 0, true);
        hear(x, 1, 0, 1);
        due("how they are in truth is not asked", x.worn(), 1);
        due("WORN in truth, whole by what was heard", x.sure(0, 0), 0);
        due("whole in truth, WORN by what was heard", x.sure(0, 1), 1);
        due("in truth it stays", x.has(0, 0), 1);
        due("in truth it stays", x.has(0, 1), 2);
        x.unhear();
        hear(x, 1, 1, 2);
        due("WORN in truth, and it SOUNDED: it counts", x.worn(), 1);
        due("WORN in truth, and it SOUNDED: it is SURE", x.sure(0, 0), 1);
    }

    private static void feltsAsTheyAreWhenAsked() {
        FeltZither x = strings(30);
        x.blank();
        hear(x, 1, 0);
        due("no FELT there: nothing EXPLAINS", x.worn(), NONE);
        x.felt(0, 0, true);
        due("FELTS as they are when it is asked", x.worn(), 0);
        due("it is SURE to be whole", x.sure(0, 0), 0);
        x.felt(0, 0, false);
        due("taken again", x.worn(), NONE);
        x.unhear();
        hear(x, 1, 1);
        due("it SOUNDED: no FELT is there", x.worn(), 0);
        x.felt(0, 0, true);
        due("it SOUNDED: the FELT is WORN", x.worn(), 1);
        x.tune(0, 40);
        due("whatever its TONE", x.worn(), 1);
    }

    private static void barsThatCameLater() {
        FeltZither x = strings(30);
        x.blank();
        hear(x, 1, 0);
        x.blank();
        x.felt(1, 0, true);
        due("a BAR that was not pressed does not hush", x.worn(), NONE);
        hear(x, 2, 1);
        x.felt(0, 0, true);
        due("each ROW by the set that was pressed", x.worn(), 1);
        due("the first BAR's", x.sure(0, 0), 0);
        due("the second BAR's", x.sure(1, 0), 1);
    }

    private static void stringsThatCameLater() {
        FeltZither x = strings(30);
        x.blank();
        x.felt(0, 0, true);
        hear(x, 1, 0);
        x.string(31, false);
        due("of each STRING that there is then: nothing of a later one", x.worn(), 0);
        x.felt(0, 1, true);
        due("nothing of a later one's FELT", x.sure(0, 1), 2);
        due("the earlier one's", x.sure(0, 0), 0);
        due("a ROW has a cell for it now", x.heard(1, 2, 0, 0), INDEX);
        hear(x, 1, 0, 1);
        due("now it was heard", x.sure(0, 1), 1);
    }

    private static void freeStringsAlwaysSound() {
        FeltZither x = new FeltZither();
        x.string(30, true);
        x.bar(C);
        hear(x, 1, 1);
        due("a FREE one SOUNDED", x.worn(), 0);
        hear(x, 1, 2);
        due("of a FREE one nobody knows", x.worn(), 0);
        hear(x, 1, 0);
        due("a FREE one did not: nothing EXPLAINS", x.worn(), NONE);
    }

    private static void nothingPressed() {
        FeltZither x = strings(30);
        x.blank();
        x.felt(0, 0, true);
        hear(x, 0, 1);
        due("no BAR pressed: it SOUNDED", x.worn(), 0);
        due("of the FELT nothing is known", x.sure(0, 0), 2);
        hear(x, 0, 0);
        due("no BAR pressed: it did not SOUND", x.worn(), NONE);
        due("STATE: nothing EXPLAINS", x.sure(0, 0), STATE);
    }

    private static void fewestWornOfOneRow() {
        FeltZither x = strings(30, 31, 32);
        cut(x, new int[] {0, 1, 2}, new int[] {0, 1}, new int[] {0});
        hear(x, 3, 1, 0, 2);
        due("the FELTS of the two BARS pressed", x.worn(), 2);
        due("the first BAR's", x.sure(0, 0), 1);
        due("the second BAR's", x.sure(1, 0), 1);
        due("not that of a BAR that was not pressed", x.sure(2, 0), 2);
        due("one of two is whole: OPEN", x.sure(0, 1), 2);
        due("one of two is whole: OPEN, the other", x.sure(1, 1), 2);
        due("nobody knows: OPEN", x.sure(0, 2), 2);
    }

    private static void fewestWornOfSeveralRows() {
        FeltZither x = strings(30, 31);
        cut(x, new int[] {0, 1}, new int[] {0, 1});
        hear(x, 1, 1, 2);
        due("one", x.worn(), 1);
        hear(x, 1, 1, 2);
        due("the same once", x.worn(), 1);
        hear(x, 2, 2, 1);
        due("of both ROWS", x.worn(), 2);
        hear(x, 3, 0, 0);
        due("the others hush", x.worn(), 2);
        due("so they are whole", x.sure(1, 0), 0);
        due("so they are whole", x.sure(0, 1), 0);
        hear(x, 3, 1, 2);
        due("it SOUNDED and did not: nothing EXPLAINS", x.worn(), NONE);
        due("STATE: nothing EXPLAINS", x.sure(0, 0), STATE);
        due("STATE: also of another STRING's", x.sure(1, 1), STATE);
        due("sure: UNKNOWN ahead of STATE: BAR", x.sure(2, 0), UNKNOWN);
        due("sure: UNKNOWN ahead of STATE: STRING", x.sure(0, 2), UNKNOWN);
        x.felt(0, 0, false);
        due("sure: UNKNOWN ahead of STATE: no FELT", x.sure(0, 0), UNKNOWN);
    }

    private static void mostThatAreWorn() {
        FeltZither x = new FeltZither();
        for (int s = 0; s < 36; s++) {
            x.string(25, false);
        }
        for (int b = 0; b < 12; b++) {
            x.bar(C);
        }
        x.sheet(0, 0, 36);
        for (int s = 0; s < 36; s++) {
            x.put(0, s, 1);
        }
        due("all BARS pressed", x.heard(4095, 0, 0, 0), 0);
        due("all FELTS are WORN", x.worn(), 12 * 36);
        due("the last one's", x.sure(11, 35), 1);
        x.put(0, 35, 0);
        due("another ROW", x.heard(1 << 11, 0, 0, 0), 1);
        due("that is against the first", x.worn(), NONE);
    }

    /** Of twelve bars each in its turn, the last one, too, is the only one with a felt. */
    private static void eachBarHushesByItself() {
        for (int b = 0; b < 12; b++) {
            FeltZither x = strings(30, 31);
            for (int k = 0; k < 12; k++) {
                x.blank();
            }
            x.felt(b, 1, true);
            hear(x, 1 << b, 1, 0);
            due("pressed alone it hushes: nothing need be WORN, BAR " + b, x.worn(), 0);
            due("it is SURE to be whole, BAR " + b, x.sure(b, 1), 0);
            hear(x, 4095, 2, 0);
            due("pressed with all others it hushes, BAR " + b, x.worn(), 0);
            hear(x, 4095 & ~(1 << b), 2, 0);
            due("all others do not hush, BAR " + b, x.worn(), NONE);
        }
    }

    private static void nobodyKnows() {
        FeltZither x = strings(30, 31);
        cut(x, new int[] {0});
        hear(x, 1, 2, 2);
        due("nobody knows: all whole", x.worn(), 0);
        due("nobody knows: OPEN", x.sure(0, 0), 2);
    }

    private static void sureToBeWorn() {
        FeltZither x = strings(30);
        cut(x, new int[] {0}, new int[] {0}, new int[] {0});
        hear(x, 7, 1);
        due("all three", x.worn(), 3);
        for (int b = 0; b < 3; b++) {
            due("all sets that EXPLAIN have it", x.sure(b, 0), 1);
        }
    }

    private static void sureToBeWhole() {
        FeltZither x = strings(30);
        cut(x, new int[] {0}, new int[] {0}, new int[] {0});
        hear(x, 7, 0);
        due("one of three is whole", x.sure(0, 0), 2);
        hear(x, 1, 1);
        due("one of two is whole", x.sure(1, 0), 2);
        hear(x, 2, 1);
        due("the last one must be", x.sure(2, 0), 0);
        due("these are WORN", x.sure(0, 0) + x.sure(1, 0), 2);
        due("two", x.worn(), 2);
    }

    private static void open() {
        FeltZither x = strings(30, 31);
        cut(x, new int[] {0, 1}, new int[] {0});
        hear(x, 3, 0, 0);
        due("the only one on the STRING must be whole", x.sure(0, 1), 0);
        due("one of two: OPEN (2)", x.sure(0, 0), 2);
        due("the other: OPEN (2)", x.sure(1, 0), 2);
        hear(x, 2, 0, 1);
        due("alone it hushes: whole", x.sure(1, 0), 0);
        due("so the other may be either", x.sure(0, 0), 2);
    }

    private static void sureOfNothing() {
        FeltZither x = strings(30);
        x.blank();
        due("UNKNOWN: there is no FELT", x.sure(0, 0), UNKNOWN);
        x.felt(0, 0, true);
        hear(x, 0, 0);
        due("STATE: nothing EXPLAINS", x.sure(0, 0), STATE);
        x.unhear();
        due("OPEN again", x.sure(0, 0), 2);
    }

    private static void unhearTellsHowMany() {
        FeltZither x = strings(30);
        x.blank();
        due("how many there were: 0", x.unhear(), 0);
        hear(x, 0, 0);
        due("nothing EXPLAINS", x.worn(), NONE);
        due("how many there were: 1", x.unhear(), 1);
        due("all ROWS go", x.told(5), 0);
        due("nothing is left to EXPLAIN", x.worn(), 0);
        due("how many there were: 0 again", x.unhear(), 0);
    }
}

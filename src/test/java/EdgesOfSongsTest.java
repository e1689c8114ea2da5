/** The edges that the document tells of SONGS: STEPS, CHORDS, NOTES, KEYS and MISSES. */
public final class EdgesOfSongsTest extends Bench {
    public static void main(String[] args) {
        songsAre8Ever();
        for (int many : new int[] {0, 1, 7, 8}) {
            onlySongsThatThereAre(many);
        }
        onlyStepsThatThereAre();
        stepsAre1To24();
        cellsFromIOn();
        cellsThatAreNotThere();
        cellsOfNone();
        howManyCellsWraps();
        chordsAndNotes();
        chordsAndNotesOfBytes();
        aSongIsNotItsSheet();
        firstThatIsComeTo();
        keysAreMinus6To5();
        rootsGoUpByClasses();
        notesGoUp();
        noteThatBecomesMinus1();
        chordMisses();
        noteMisses();
        noteWithoutAHold();
        missesAreCounted();
        mostMisses();
        bestKeyIsNearestToZero();
        bestKeyAboveZeroOfTwo();
        bestKeyAtTheEnds();
        bestKeyHasTheFewestMisses();
        bestKeyWithoutAnything();
        playableAsBits();
        playableWithoutMisses();
        CHECK.finish();
    }

    private static void songsAre8Ever() {
        FeltZither x = new FeltZither();
        x.sheet(0, 0, 2);
        for (int g = 0; g < 8; g++) {
            due("SONGS are numbered from 0 on as they come", x.song(0, 0, 0, 1), g);
        }
        due("SONGS, 8 ever: a ninth", x.song(0, 0, 0, 1), FULL);
        due("SONGS, 8 ever: there are", x.told(3), 8);
        due("FULL is no FAULT", x.fault(), 0);
        due("song: OUTSIDE (n) ahead of FULL", x.song(0, 0, 0, 0), OUTSIDE);
        x.put(0, 0, 96);
        due("song: OUTSIDE (a CHORD) ahead of FULL", x.song(0, 0, 0, 1), OUTSIDE);
        x.put(0, 0, 95);
        x.put(0, 1, 61);
        due("song: OUTSIDE (a NOTE) ahead of FULL", x.song(0, 0, 0, 1), OUTSIDE);
        x.put(0, 1, 60);
        due("song: INDEX ahead of FULL", x.song(0, 0, 1, 1), INDEX);
        due("song: SIZE ahead of FULL", x.song(0, 0, 0, -1), SIZE);
        due("song: CAST ahead of FULL", x.song(0, 1, 0, 1), CAST);
        due("song: NULL ahead of FULL", x.song(1, 0, 0, 1), NULL);
        due("song: UNKNOWN ahead of FULL", x.song(4, 0, 0, 1), UNKNOWN);
        x.build(0);
        x.unhear();
        x.lose(0);
        x.sheet(0, 0, 2);
        due("SONGS, 8 ever: none goes", x.song(0, 0, 0, 1), FULL);
    }

    private static void onlySongsThatThereAre(int many) {
        FeltZither x = new FeltZither();
        x.sheet(0, 0, 2);
        for (int g = 0; g < many; g++) {
            x.song(0, 0, 0, 1);
        }
        takesOnly("step: UNKNOWN", 0, many - 1, UNKNOWN, g -> x.step(g, 0, 0));
        takesOnly("key: UNKNOWN", 0, many - 1, UNKNOWN, g -> x.key(g, 0));
        takesOnly("misses: UNKNOWN", 0, many - 1, UNKNOWN, g -> x.misses(g, 0));
        takesOnly("bestKey: UNKNOWN is told as 99", 0, many - 1, 99, x::bestKey);
        takesOnly("trouble: UNKNOWN", 0, many - 1, UNKNOWN, x::trouble);
        takesOnly("grip: UNKNOWN", 0, many - 1, UNKNOWN, g -> x.grip(g, 0));
        due("step: UNKNOWN ahead of OUTSIDE", x.step(many, 0, 4), UNKNOWN);
        due("key: UNKNOWN ahead of OUTSIDE", x.key(many, 6), UNKNOWN);
        due("misses: UNKNOWN ahead of OUTSIDE", x.misses(many, 5), UNKNOWN);
        due("as many SONGS as before", x.told(3), many);
    }

    private static void onlyStepsThatThereAre() {
        FeltZither x = new FeltZither();
        x.sheet(0, 0, 64);
        x.song(0, 0, 0, 1);
        x.song(0, 0, 0, 24);
        takesOnly("step: a STEP of one", 0, 0, UNKNOWN, i -> x.step(0, i, 0));
        takesOnly("step: a STEP of 24", 0, 23, UNKNOWN, i -> x.step(1, i, 0));
        takesOnly("grip: a STEP of one", 0, 0, UNKNOWN, i -> x.grip(0, i));
        takesOnly("grip: a STEP of 24", 0, 23, UNKNOWN, i -> x.grip(1, i));
        due("step: UNKNOWN (the STEP) ahead of OUTSIDE", x.step(0, 1, 4), UNKNOWN);
        due("step: UNKNOWN (the STEP) ahead of OUTSIDE, below", x.step(0, -1, -1), UNKNOWN);
        takesOnly("step: what", 0, 3, OUTSIDE, what -> x.step(1, 23, what));
        takesOnly("misses: what", 0, 4, OUTSIDE, what -> x.misses(1, what));
    }

    private static void stepsAre1To24() {
        FeltZither x = new FeltZither();
        x.sheet(0, 0, 64);
        due("1 STEP", x.song(0, 0, 0, 1), 0);
        due("24 STEPS", x.song(0, 0, 0, 24), 1);
        due("how many STEPS it has: 1", x.misses(0, 3), 1);
        due("how many STEPS it has: 24", x.misses(1, 3), 24);
        due("OUTSIDE: n is not 1 .. 24: 0", x.song(0, 0, 0, 0), OUTSIDE);
        due("0 is no FAULT", x.fault(), 0);
        due("OUTSIDE: n is not 1 .. 24: 25", x.song(0, 0, 0, 25), OUTSIDE);
        due("OUTSIDE: n is not 1 .. 24: all there are", x.song(0, 0, 0, 32), OUTSIDE);
        due("25 is no FAULT", x.fault(), 0);
        due("INDEX: not all cells are there: 33", x.song(0, 0, 0, 33), INDEX);
        due("SIZE: n is below 0", x.song(0, 0, 0, -1), SIZE);
        due("SIZE: n is far below 0", x.song(0, 0, 0, MIN), SIZE);
        due("two SONGS as before", x.told(3), 2);
    }

    private static void cellsFromIOn() {
        FeltZither x = new FeltZither();
        x.sheet(0, 1, 64);
        for (int i = 0; i < 64; i++) {
            x.put(0, i, i % 60);
        }
        due("from the first cell on", x.song(0, 1, 0, 2), 0);
        due("its CHORD", x.step(0, 0, 0), 0);
        due("its NOTE", x.step(0, 0, 1), 1);
        due("the second STEP's CHORD", x.step(0, 1, 0), 2);
        due("the second STEP's NOTE", x.step(0, 1, 1), 3);
        due("from an odd cell on", x.song(0, 1, 1, 2), 1);
        due("its CHORD", x.step(1, 0, 0), 1);
        due("its last NOTE", x.step(1, 1, 1), 4);
        due("24 STEPS to the last cell", x.song(0, 1, 16, 24), 2);
        due("the first CHORD", x.step(2, 0, 0), 16);
        due("the last CHORD", x.step(2, 23, 0), 2);
        due("the last NOTE", x.step(2, 23, 1), 3);
        due("24 STEPS, one cell too far", x.song(0, 1, 17, 24), INDEX);
        due("the last two cells", x.song(0, 1, 62, 1), 3);
        due("the last CHORD", x.step(3, 0, 0), 2);
        due("the last NOTE", x.step(3, 0, 1), 3);
    }

    private static void cellsThatAreNotThere() {
        FeltZither x = new FeltZither();
        x.sheet(0, 2, 2);
        due("INDEX: the second cell is not there", x.song(0, 2, 1, 1), INDEX);
        due("its FAULT", x.fault(), 3);
        due("INDEX: no cell is there", x.song(0, 2, 2, 1), INDEX);
        due("INDEX: the first cell is not there", x.song(0, 2, -1, 1), INDEX);
        due("INDEX: neither", x.song(0, 2, -2, 1), INDEX);
        due("INDEX: more than there are", x.song(0, 2, 0, 2), INDEX);
        due("INDEX: the last int", x.song(0, 2, MAX, 1), INDEX);
        due("INDEX: the last but one", x.song(0, 2, MAX - 1, 1), INDEX);
        due("INDEX: the least int", x.song(0, 2, MIN, 1), INDEX);
        due("all are there", x.song(0, 2, 0, 1), 0);
        x.sheet(1, 2, 0);
        due("INDEX: a row of 0", x.song(1, 2, 0, 1), INDEX);
        x.sheet(1, 2, 1);
        due("INDEX: a row of 1", x.song(1, 2, 0, 1), INDEX);
        due("INDEX ahead of OUTSIDE (a CHORD)", x.put(1, 0, 96), 1);
        due("INDEX ahead of OUTSIDE (a CHORD)", x.song(1, 2, 0, 1), INDEX);
        x.sheet(1, 2, 49);
        due("INDEX ahead of OUTSIDE (n): 25", x.song(1, 2, 0, 25), INDEX);
        due("INDEX: 24 from 2 on", x.song(1, 2, 2, 24), INDEX);
        due("24 from 1 on", x.song(1, 2, 1, 24), 1);
    }

    /** INDEX, of cells from i on, also where none of them is taken. */
    private static void cellsOfNone() {
        FeltZither x = new FeltZither();
        x.sheet(0, 0, 5);
        takesOnly("song: i is 0 .. how many there are, if none is taken", 0, 5, INDEX, i -> x.song(0, 0, i, 0));
        due("none is taken: then n is OUTSIDE", x.song(0, 0, 0, 0), OUTSIDE);
        due("none is taken, from the end on: n is OUTSIDE", x.song(0, 0, 5, 0), OUTSIDE);
        x.sheet(0, 0, 0);
        takesOnly("song: i is 0 .. 0 in a row of 0", 0, 0, INDEX, i -> x.song(0, 0, i, 0));
        due("none of a row of 0: n is OUTSIDE", x.song(0, 0, 0, 0), OUTSIDE);
        x.sheet(0, 0, 64);
        takesOnly("song: i is 0 .. 64", 0, 64, INDEX, i -> x.song(0, 0, i, 0));
        due("there are no SONGS", x.told(3), 0);
    }

    /** Two cells each: twice n is beyond an int. */
    private static void howManyCellsWraps() {
        FeltZither x = new FeltZither();
        x.sheet(0, 0, 64);
        for (int n : new int[] {1 << 30, (1 << 30) + 1, (1 << 30) - 1, MAX, MAX - 1}) {
            due("INDEX: not all cells are there: " + n, x.song(0, 0, 0, n), INDEX);
            due("INDEX: nor from the end on: " + n, x.song(0, 0, 64, n), INDEX);
            due("INDEX: nor from the last int on: " + n, x.song(0, 0, MAX, n), INDEX);
            due("INDEX: nor from the least int on: " + n, x.song(0, 0, MIN, n), INDEX);
        }
        for (int n : new int[] {-1, MIN, MIN + 1, -(1 << 30)}) {
            due("SIZE: n is below 0: " + n, x.song(0, 0, 0, n), SIZE);
            due("SIZE ahead of INDEX: " + n, x.song(0, 0, -1, n), SIZE);
            due("SIZE ahead of INDEX: " + n, x.song(0, 0, 65, n), SIZE);
            due("its FAULT", x.fault(), 4);
        }
        due("there are no SONGS", x.told(3), 0);
    }

    private static long songOf(FeltZither x, int chord, int note) {
        x.put(0, 2, chord);
        x.put(0, 3, note);
        return x.song(0, 2, 0, 2);
    }

    private static void chordsAndNotes() {
        FeltZither x = new FeltZither();
        x.sheet(0, 2, 4);
        takesOnly("a CHORD, in the last STEP", 0, 95, OUTSIDE, chord -> songOf(x, chord, 0));
        takesOnly("a NOTE, in the last STEP", -1, 60, OUTSIDE, note -> songOf(x, 0, note));
        due("four SONGS", x.told(3), 4);
        due("the CHORD 95", x.step(1, 1, 0), 95);
        due("the NOTE -1: none", x.step(2, 1, 1), NONE);
        due("the NOTE 60", x.step(3, 1, 1), 60);
        due("the NOTE 0", x.step(3, 0, 1), 0);
        x.put(0, 2, 0);
        x.put(0, 3, 0);
        x.put(0, 0, 96);
        due("OUTSIDE: a CHORD, in the first STEP", x.song(0, 2, 0, 2), OUTSIDE);
        due("a CHORD that is not taken", x.song(0, 2, 2, 1), 4);
        x.put(0, 0, 0);
        x.put(0, 1, -2);
        due("OUTSIDE: a NOTE, in the first STEP", x.song(0, 2, 0, 2), OUTSIDE);
        due("OUTSIDE is no FAULT", x.fault(), 0);
        x.put(0, 1, -1);
        due("taken", x.song(0, 2, 0, 2), 5);
    }

    private static void chordsAndNotesOfBytes() {
        FeltZither x = new FeltZither();
        x.sheet(0, 0, 2);
        x.put(0, 0, 256 + 95);
        x.put(0, 1, 255);
        due("cells cut to bytes: 95, -1", x.song(0, 0, 0, 1), 0);
        due("its CHORD", x.step(0, 0, 0), 95);
        due("no NOTE", x.step(0, 0, 1), NONE);
        x.put(0, 0, 128);
        due("OUTSIDE: 128 is -128", x.song(0, 0, 0, 1), OUTSIDE);
        x.sheet(0, 1, 2);
        x.put(0, 0, 65536 + 95);
        x.put(0, 1, 65535);
        due("cells cut to shorts: 95, -1", x.song(0, 1, 0, 1), 1);
        x.put(0, 1, 256 + 60);
        due("OUTSIDE: not cut to a byte", x.song(0, 1, 0, 1), OUTSIDE);
    }

    private static void aSongIsNotItsSheet() {
        FeltZither x = new FeltZither();
        int g = write(x, 95, 60);
        x.put(3, 0, 1);
        x.put(3, 1, -1);
        due("its CHORD stays", x.step(g, 0, 0), 95);
        x.lose(3);
        due("its NOTE stays", x.step(g, 0, 1), 60);
    }

    /** CAST, NULL, SIZE, INDEX, OUTSIDE, in the order told; UNKNOWN and OUTSIDE (lane) come ahead. */
    private static void firstThatIsComeTo() {
        FeltZither x = new FeltZither();
        x.sheet(0, 1, 4);
        takesOnly("song: UNKNOWN: SHEETS 0 .. 3", 0, 3, UNKNOWN, sheet -> x.song(sheet, 1, 0, 0));
        takesOnly("song: OUTSIDE: lane", 0, 2, OUTSIDE, lane -> x.song(0, lane, -1, 1));
        takesOnly("song: OUTSIDE: lane, ahead of NULL", 0, 2, OUTSIDE, lane -> x.song(1, lane, 0, 1));
        due("UNKNOWN ahead of OUTSIDE (lane)", x.song(4, 3, 0, 1), UNKNOWN);
        due("UNKNOWN ahead of SIZE", x.song(-1, 1, 0, -1), UNKNOWN);
        due("OUTSIDE (lane) ahead of SIZE", x.song(0, 3, 0, -1), OUTSIDE);
        due("OUTSIDE (lane) ahead of INDEX", x.song(0, -1, -1, 1), OUTSIDE);
        due("refused: no FAULT", x.fault(), 0);
        due("CAST ahead of SIZE", x.song(0, 0, 0, -1), CAST);
        due("its FAULT", x.fault(), 2);
        due("CAST ahead of INDEX", x.song(0, 2, -1, 1), CAST);
        due("CAST ahead of OUTSIDE (n)", x.song(0, 2, 0, 0), CAST);
        due("NULL ahead of SIZE", x.song(1, 0, 0, -1), NULL);
        due("its FAULT", x.fault(), 1);
        due("NULL ahead of INDEX", x.song(1, 1, -1, 1), NULL);
        due("NULL ahead of OUTSIDE (n)", x.song(1, 2, 0, 0), NULL);
        for (int lane = 0; lane < 3; lane++) {
            due("nothing is no CAST, in any LANE: " + lane, x.song(2, lane, 0, 1), NULL);
        }
        x.sheet(2, 0, 0);
        due("a row of 0 is not nothing: CAST", x.song(2, 1, 0, 1), CAST);
        due("a row of 0 is not nothing: INDEX", x.song(2, 0, 0, 1), INDEX);
        x.lose(0);
        due("what was lost is NULL", x.song(0, 1, 0, 1), NULL);
    }

    private static void keysAreMinus6To5() {
        FeltZither x = new FeltZither();
        int g = chords(x, C);
        due("its KEY is 0 at first", x.misses(g, 4), 0);
        takesOnly("key: KEYS -6 .. 5", -6, 5, OUTSIDE, t -> x.key(g, t));
        due("it became 5, and no other", x.key(g, -6), 5);
        due("what it was: -6", x.key(g, -6), -6);
        due("the KEY -6", x.misses(g, 4), -6);
        int h = chords(x, C);
        due("each SONG has its own, 0 at first", x.misses(h, 4), 0);
        due("what it was: 0", x.key(h, 1), 0);
        due("the other one's stays", x.misses(g, 4), -6);
    }

    private static void rootsGoUpByClasses() {
        FeltZither x = new FeltZither();
        int g = chords(x, 0, 11, 84, 95, 40);
        int[][] wants = {
            {-6, 6, 5, 90, 89, 46}, {-5, 7, 6, 91, 90, 47}, {-4, 8, 7, 92, 91, 36}, {-1, 11, 10, 95, 94, 39},
            {0, 0, 11, 84, 95, 40}, {1, 1, 0, 85, 84, 41}, {5, 5, 4, 89, 88, 45}
        };
        for (int[] want : wants) {
            x.key(g, want[0]);
            for (int i = 0; i < 5; i++) {
                due("ROOTS go up by classes, SORTS stay: KEY " + want[0], x.step(g, i, 0), want[i + 1]);
            }
        }
    }

    private static void notesGoUp() {
        FeltZither x = strings(0, 60, 5, 54);
        int g = write(x, C, 0, C, 60, C, -1);
        x.key(g, -6);
        due("a NOTE may be below 0 by the KEY", x.step(g, 0, 1), -6);
        due("then no STRING has it", x.step(g, 0, 3), 1);
        due("60 less 6", x.step(g, 1, 1), 54);
        due("which a STRING has", x.step(g, 1, 3), 0);
        due("those that are one: none stays none", x.step(g, 2, 1), NONE);
        due("and misses nothing", x.step(g, 2, 3), 0);
        x.key(g, 5);
        due("a NOTE may be above 60 by the KEY", x.step(g, 1, 1), 65);
        due("then no STRING has it", x.step(g, 1, 3), 1);
        due("0 and 5", x.step(g, 0, 1), 5);
        due("which a STRING has", x.step(g, 0, 3), 0);
        due("none stays none", x.step(g, 2, 1), NONE);
        x.key(g, 1);
        due("61", x.step(g, 1, 3), 1);
        x.key(g, 0);
        due("0 is a NOTE", x.step(g, 0, 1), 0);
        due("that a STRING has", x.step(g, 0, 3), 0);
        due("60 is one, too", x.step(g, 1, 3), 0);
    }

    private static void noteThatBecomesMinus1() {
        FeltZither x = strings(0, 4, 7);
        x.blank();
        int g = write(x, C, 0);
        due("it can be played", x.playable(), 1);
        int h = write(x, 1, 0);
        x.key(h, -1);
        due("a NOTE that becomes -1 is one", x.step(h, 0, 1), -1);
        due("and misses", x.step(h, 0, 3), 1);
        due("its CHORD does not", x.step(h, 0, 2), 0);
        due("so it can't be played", x.playable(), 1);
        due("and troubles", x.trouble(h), 30);
        due("the other one's NOTE", x.step(g, 0, 1), 0);
    }

    private static void chordMisses() {
        FeltZither x = strings(24, 28, 31, 25);
        int g = chords(x, C);
        due("it has no HOLD: no BARS", x.step(g, 0, 2), 1);
        cut(x, new int[] {0}, new int[] {3});
        due("it has a HOLD", x.step(g, 0, 2), 0);
        x.key(g, 1);
        due("by its KEY it has none", x.step(g, 0, 2), 1);
        x.key(g, 0);
        x.wear(1, 3, true);
        due("the FELT is WORN", x.step(g, 0, 2), 1);
    }

    private static void noteMisses() {
        FeltZither x = strings(24, 28, 31, 25, 36);
        x.string(25, true);
        x.string(60, true);
        cut(x, new int[] {3, 4});
        int g = write(x, C, 24, C, 36, C, 25, C, 60, C, 48, C, -1);
        int[] wants = {0, 1, 0, 0, 1, 0};
        for (int i = 0; i < 6; i++) {
            due("if no STRING of that TONE SOUNDS with the HOLD: STEP " + i, x.step(g, i, 3), wants[i]);
        }
        x.tune(5, 26);
        due("the FREE one has another TONE", x.step(g, 2, 3), 1);
        x.wear(0, 4, true);
        due("the WORN one SOUNDS", x.step(g, 1, 3), 0);
    }

    private static void noteWithoutAHold() {
        FeltZither x = strings(24, 28, 31, 25, 26);
        cut(x, new int[] {0, 1, 2, 3, 4});
        int g = write(x, C, 24, C, 27);
        due("there is no HOLD", x.hold(C), NONE);
        due("then no BAR is pressed: it SOUNDS", x.step(g, 0, 3), 0);
        due("a TONE that no STRING has", x.step(g, 1, 3), 1);
        FeltZither y = strings(24, 28, 31, 25, 26);
        cut(y, new int[] {3, 0}, new int[] {4}, new int[] {3});
        y.string(36, false);
        int h = write(y, C, 24);
        due("the first HOLD hushes it, though another would not", y.step(h, 0, 3), 1);
        due("its CHORD has that HOLD", y.hold(C), 3);
    }

    private static void missesAreCounted() {
        FeltZither x = strings(24, 28, 31, 25);
        cut(x, new int[] {3});
        int g = write(x, C, 24, F, 29, F, 25, C, 25, C, -1, F, -1);
        int[] wants = {3, 2, 5, 6, 0};
        for (int what = 0; what < 5; what++) {
            due("MISSES: " + what, x.misses(g, what), wants[what]);
        }
        int none = write(x, C, 24);
        for (int what = 0; what < 3; what++) {
            due("no MISSES: " + what, x.misses(none, what), 0);
        }
        x.key(none, -1);
        due("MISSES by the KEY: CHORDS", x.misses(none, 0), 1);
        due("MISSES by the KEY: NOTES", x.misses(none, 1), 1);
        due("MISSES by the KEY: both", x.misses(none, 2), 2);
    }

    private static void mostMisses() {
        FeltZither x = new FeltZither();
        x.sheet(0, 0, 48);
        x.song(0, 0, 0, 24);
        due("24 CHORDS MISS", x.misses(0, 0), 24);
        due("24 NOTES MISS", x.misses(0, 1), 24);
        due("both", x.misses(0, 2), 48);
    }

    private static void bestKeyIsNearestToZero() {
        FeltZither x = chromatic(12);
        int g = chords(x, C);
        bars(x, 0, 1, 11);
        due("the one nearest to 0: 0 itself", x.bestKey(g), 0);
        x.key(g, 3);
        due("whatever KEY it has", x.bestKey(g), 0);
        due("the KEY stays", x.misses(g, 4), 3);
        for (int far = 1; far < 6; far++) {
            FeltZither y = chromatic(12);
            int h = chords(y, C);
            bars(y, far + 1, 11 - far, 12 - far);
            due("the one nearest to 0: " + -far, y.bestKey(h), -far);
            FeltZither z = chromatic(12);
            int k = chords(z, C);
            bars(z, far, 11 - far);
            due("the one nearest to 0: " + far, z.bestKey(k), far);
        }
    }

    private static void bestKeyAboveZeroOfTwo() {
        for (int far = 1; far < 6; far++) {
            FeltZither x = chromatic(12);
            int g = chords(x, C);
            bars(x, 12 - far, far);
            due("of two the one above 0: " + far, x.bestKey(g), far);
        }
    }

    private static void bestKeyAtTheEnds() {
        FeltZither x = chromatic(12);
        int g = chords(x, C);
        bars(x, 6);
        due("-6, if no other has fewer", x.bestKey(g), -6);
        bars(x, 7);
        due("-5 is nearer than -6", x.bestKey(g), -5);
        bars(x, 5);
        due("5 is above -5", x.bestKey(g), 5);
    }

    private static void bestKeyHasTheFewestMisses() {
        FeltZither x = strings(24, 28, 31, 34);
        cut(x, new int[] {3});
        due("a CHORD less at 0 than a NOTE less there", x.bestKey(write(x, C, 29, C, 29, C, 29)), 0);
        due("NOTES alone: -3", x.bestKey(write(x, A_MINOR, 37, A_MINOR, 34, A_MINOR, 31)), -3);
        due("two CHORDS and a NOTE: 2", x.bestKey(write(x, 10, -1, 10, -1, F, 29)), 2);
        due("CHORDS and NOTES weigh the same: of two the one above 0", x.bestKey(write(x, 10, 36)), 2);
        due("fewer at the end is better than more at 0", x.bestKey(write(x, 6, 30, 6, 34, 6, 37, C, -1)), -6);
    }

    private static void bestKeyWithoutAnything() {
        FeltZither x = new FeltZither();
        int g = write(x, C, 24);
        due("all KEYS alike: 0", x.bestKey(g), 0);
        x.key(g, -6);
        due("all KEYS alike: 0, whatever it has", x.bestKey(g), 0);
    }

    private static void playableAsBits() {
        FeltZither x = strings(24, 28, 31);
        due("no SONGS", x.playable(), 0);
        x.blank();
        x.sheet(0, 0, 2);
        x.put(0, 1, 24);
        for (int g = 0; g < 8; g++) {
            x.song(0, 0, 0, 1);
            due("SONGS as bits: bit k for number k", x.playable(), (2 << g) - 1);
        }
        x.key(0, 1);
        due("all but the first", x.playable(), 254);
        x.key(7, 1);
        due("all but the first and the last", x.playable(), 126);
    }

    private static void playableWithoutMisses() {
        FeltZither x = strings(24, 28, 31, 25);
        cut(x, new int[] {3});
        write(x, C, 24, C, 28, C, -1);
        write(x, C, 24, C, 25);
        write(x, C, 24, F, 24);
        write(x, F, 24, C, 24);
        write(x, C, 25, C, 24);
        due("no MISSES: neither a CHORD nor a NOTE, in no STEP", x.playable(), 1);
        for (int g = 0; g < 5; g++) {
            due("how many MISSES", x.misses(g, 2), g == 0 ? 0 : 1);
        }
    }
}

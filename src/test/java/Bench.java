import java.util.function.IntToLongFunction;

/** What tests have in common: the document's numbers, small instruments, and ways to ask at edges. */
abstract class Bench {
    static final int UNKNOWN = -1;
    static final int OUTSIDE = -2;
    static final int STATE = -3;
    static final int FULL = -4;
    static final int NONE = -9;
    static final int NULL = -11;
    static final int CAST = -12;
    static final int INDEX = -13;
    static final int SIZE = -14;
    static final long LOST = Long.MIN_VALUE;
    static final int MIN = Integer.MIN_VALUE;
    static final int MAX = Integer.MAX_VALUE;

    static final int C = 0;
    static final int F = 5;
    static final int G = 7;
    static final int A_MINOR = 21;
    static final int C_SEVENTH = 24;
    static final int A_MINOR_SEVENTH = 45;
    static final int C_GREAT_SEVENTH = 72;

    static final Check CHECK = new Check("due");

    static void due(String what, long got, long want) {
        CHECK.due(what, got, want);
    }

    /** A zither with strings of these tones, none of them free. */
    static FeltZither strings(int... tones) {
        FeltZither x = new FeltZither();
        for (int tone : tones) {
            x.string(tone, false);
        }
        return x;
    }

    /** A zither with one string of each tone from 24 on, none of them free. */
    static FeltZither chromatic(int strings) {
        FeltZither x = new FeltZither();
        for (int s = 0; s < strings; s++) {
            x.string(24 + s, false);
        }
        return x;
    }

    /** Bars cut by hand, by the strings that each of them has a felt on. */
    static void cut(FeltZither x, int[]... felts) {
        for (int[] ofOne : felts) {
            int b = x.blank();
            for (int s : ofOne) {
                x.felt(b, s, true);
            }
        }
    }

    static void bars(FeltZither x, int... chords) {
        for (int chord : chords) {
            x.bar(chord);
        }
    }

    static void offers(FeltZither x, int... chords) {
        for (int chord : chords) {
            x.offer(chord);
        }
    }

    /** A new row of a lane on a sheet, with these cells. */
    static void fill(FeltZither x, int sheet, int lane, int... cells) {
        x.sheet(sheet, lane, cells.length);
        for (int i = 0; i < cells.length; i++) {
            x.put(sheet, i, cells[i]);
        }
    }

    /** A song of chords and notes by turns, written to sheet 3. */
    static int write(FeltZither x, int... cells) {
        fill(x, 3, 2, cells);
        return x.song(3, 2, 0, cells.length / 2);
    }

    /** A song of chords without notes. */
    static int chords(FeltZither x, int... chords) {
        int[] cells = new int[2 * chords.length];
        for (int i = 0; i < chords.length; i++) {
            cells[2 * i] = chords[i];
            cells[2 * i + 1] = -1;
        }
        return write(x, cells);
    }

    /** A row heard, written to sheet 2. */
    static int hear(FeltZither x, int set, int... cells) {
        fill(x, 2, 0, cells);
        return x.heard(set, 2, 0, 0);
    }

    /**
     * Of all numbers, a call takes first .. last (none, if last is less): the ends are not refused,
     * and the numbers next to them and far beyond are.
     */
    static void takesOnly(String what, int first, int last, long refusal, IntToLongFunction call) {
        if (first <= last) {
            CHECK.holds(what + ": " + first + " is taken", call.applyAsLong(first) != refusal);
            CHECK.holds(what + ": " + last + " is taken", call.applyAsLong(last) != refusal);
        }
        int beyond = Math.max(first, last + 1);
        int[] wrong = {first - 1, beyond, first - 2, beyond + 1, MIN, MAX, MIN + 1 + first, 256 + first, 65536 + first};
        for (int number : wrong) {
            due(what + ": " + number, call.applyAsLong(number), refusal);
        }
    }

    /** Of sets of so many, a call takes the empty and the full one; no bit beyond is taken. */
    static void takesSetsOf(String what, int many, IntToLongFunction call) {
        int all = (1 << many) - 1;
        CHECK.holds(what + ": the empty set of " + many, call.applyAsLong(0) != OUTSIDE);
        CHECK.holds(what + ": the full set of " + many, call.applyAsLong(all) != OUTSIDE);
        for (int bit = many; bit < 32; bit++) {
            due(what + ": bit " + bit + " of " + many, call.applyAsLong(1 << bit), OUTSIDE);
        }
        due(what + ": all of " + many + " and one more", call.applyAsLong(all | 1 << many), OUTSIDE);
        due(what + ": all of " + many + " and the sign", call.applyAsLong(all | MIN), OUTSIDE);
        due(what + ": all bits of " + many, call.applyAsLong(-1), OUTSIDE);
    }
}

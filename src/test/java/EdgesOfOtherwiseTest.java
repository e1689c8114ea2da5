/** The edges that the document tells of ONE STRING OTHERWISE, and of BEST. */
public final class EdgesOfOtherwiseTest extends Bench {
    public static void main(String[] args) {
        byMinus2To2ButNot0();
        withinTheTones();
        countsSongs();
        feltsAsTheyAre();
        nothingStaysOtherwise();
        bestOfNothing();
        bestIsMoreThanNow();
        bestByStringThenByD();
        bestIsTheGreatest();
        bestWithinTheTones();
        bestOfTheLastString();
        CHECK.finish();
    }

    private static void byMinus2To2ButNot0() {
        FeltZither x = strings(30);
        for (int d : new int[] {-2, -1, 1, 2}) {
            due("d is -2, -1, 1, 2: " + d, x.otherwise(0, d), 0);
        }
        for (int d : new int[] {0, -3, 3, -4, 4, MIN, MAX, MIN + 1, 256, 257, 65536 + 2, -30, 30}) {
            due("OUTSIDE: d is not -2, -1, 1, 2: " + d, x.otherwise(0, d), OUTSIDE);
        }
        due("otherwise: UNKNOWN ahead of OUTSIDE", x.otherwise(1, 0), UNKNOWN);
        due("otherwise: UNKNOWN ahead of OUTSIDE, below", x.otherwise(-1, 3), UNKNOWN);
    }

    private static void withinTheTones() {
        FeltZither x = strings(0);
        int[][] wants = {
            {0, OUTSIDE, OUTSIDE, 0, 0}, {1, OUTSIDE, 0, 0, 0}, {2, 0, 0, 0, 0},
            {58, 0, 0, 0, 0}, {59, 0, 0, 0, OUTSIDE}, {60, 0, 0, OUTSIDE, OUTSIDE}
        };
        int[] by = {-2, -1, 1, 2};
        for (int[] want : wants) {
            x.tune(0, want[0]);
            for (int k = 0; k < 4; k++) {
                due("the TONE would be 0 .. 60: " + want[0] + " by " + by[k], x.otherwise(0, by[k]), want[k + 1]);
            }
        }
        x.string(60, true);
        due("of a FREE one", x.otherwise(1, -2), 0);
        due("OUTSIDE: of a FREE one", x.otherwise(1, 1), OUTSIDE);
    }

    private static void countsSongs() {
        FeltZither x = strings(24, 28, 32);
        x.blank();
        x.sheet(0, 0, 2);
        x.put(0, 1, -1);
        for (int g = 0; g < 8; g++) {
            x.song(0, 0, 0, 1);
            due("how many SONGS CAN BE PLAYED then", x.otherwise(2, -1), g + 1);
            due("how many CAN BE PLAYED as it is", x.otherwise(2, 1), 0);
        }
        x.key(0, 1);
        due("by their KEYS", x.otherwise(2, -1), 7);
        x.tune(2, 31);
        due("fewer than now", x.otherwise(2, -1), 0);
        due("otherwise in a class of no CHORD", x.otherwise(2, 1), 0);
    }

    private static void feltsAsTheyAre() {
        FeltZither x = strings(24, 28, 31, 25);
        x.bar(C);
        chords(x, C);
        due("CAN BE PLAYED", x.playable(), 1);
        due("its FELT stays on it", x.otherwise(3, -1), 1);
        due("no FELT comes to it", x.otherwise(0, 1), 0);
        due("so it would SOUND", x.otherwise(2, -1), 0);
    }

    private static void nothingStaysOtherwise() {
        FeltZither x = strings(24, 28, 32);
        x.blank();
        chords(x, C);
        due("then", x.otherwise(2, -1), 1);
        due("its TONE is as it was", x.ofString(2, 0), 32);
        due("CLASSES are as they were", x.classes(0), 1 | 1 << 4 | 1 << 8);
        due("SONGS are as they were", x.playable(), 0);
        due("STRUM is as it was", x.strum(0, 2), 32);
        due("best leaves it, too", x.best(0), 2);
        due("its TONE is as it was", x.ofString(2, 0), 32);
        due("SONGS are as they were", x.playable(), 0);
    }

    private static void bestOfNothing() {
        FeltZither x = new FeltZither();
        takesOnly("best: OUTSIDE (99)", 0, 2, 99, x::best);
        due("no STRINGS: NONE", x.best(0), NONE);
        due("no STRINGS: 0", x.best(1), 0);
        due("no STRINGS: NONE", x.best(2), NONE);
        x.string(30, false);
        due("no SONGS: NONE", x.best(0), NONE);
        due("no SONGS: 0", x.best(1), 0);
        due("no SONGS: NONE", x.best(2), NONE);
        chords(x, C);
        due("no SONG more: NONE", x.best(0), NONE);
        due("no SONG more: 0", x.best(1), 0);
        due("no SONG more: NONE", x.best(2), NONE);
    }

    private static void bestIsMoreThanNow() {
        FeltZither x = strings(24, 28, 31);
        x.blank();
        chords(x, C);
        x.string(36, true);
        due("now one, otherwise one: NONE", x.best(0), NONE);
        due("now one, otherwise one: 0", x.best(1), 0);
        due("now one, otherwise one: NONE", x.best(2), NONE);
        write(x, C, 37);
        due("two are more than one: the STRING", x.best(0), 3);
        due("two are more than one: d", x.best(1), 1);
        due("two are more than one: how many", x.best(2), 2);
        FeltZither y = strings(24, 28, 31);
        y.blank();
        chords(y, C);
        chords(y, 12);
        due("another one instead is not more", y.best(0), NONE);
        due("though it is as many", y.otherwise(1, -1), 1);
    }

    private static void bestByStringThenByD() {
        FeltZither x = strings(24, 28, 31);
        x.blank();
        x.string(36, true);
        x.string(36, true);
        write(x, C, 38);
        write(x, C, 37);
        write(x, C, 35);
        write(x, C, 34);
        due("the first by STRING", x.best(0), 3);
        due("then by d as told here: -2", x.best(1), -2);
        due("how many", x.best(2), 1);
        x.key(3, 5);
        due("then -1", x.best(1), -1);
        x.key(2, 5);
        due("then 1", x.best(1), 1);
        x.key(1, 5);
        due("then 2", x.best(1), 2);
        x.tune(3, 39);
        due("the first by STRING: 39 by -1, ahead of 36 by 2", x.best(0), 3);
        due("then its d", x.best(1), -1);
        x.tune(3, 37);
        x.tune(4, 40);
        due("the first by STRING: 37 by 1, ahead of 40 by -2", x.best(0), 3);
        due("then its d", x.best(1), 1);
    }

    private static void bestIsTheGreatest() {
        FeltZither x = strings(24, 28, 31);
        x.blank();
        x.string(36, true);
        x.string(40, true);
        write(x, C, 35);
        write(x, C, 41);
        write(x, C, 41);
        due("the greatest, though a later STRING", x.best(0), 4);
        due("the greatest: d", x.best(1), 1);
        due("the greatest: how many", x.best(2), 2);
        write(x, C, 42);
        write(x, C, 42);
        write(x, C, 42);
        due("the greatest, though a later d", x.best(1), 2);
        due("the greatest: how many", x.best(2), 3);
    }

    private static void bestWithinTheTones() {
        FeltZither x = strings(24, 28, 31);
        x.blank();
        x.string(0, true);
        x.string(60, true);
        write(x, C, 1);
        due("up from 0", x.best(0), 3);
        due("by 1", x.best(1), 1);
        x.key(0, 5);
        write(x, C, 58);
        due("down from 60", x.best(0), 4);
        due("by -2", x.best(1), -2);
        FeltZither y = strings(0, 4, 8);
        y.blank();
        chords(y, C);
        due("a STRING of TONE 8 by -1", y.best(0), 2);
        FeltZither z = strings(0, 3, 6);
        z.blank();
        chords(z, 11);
        due("nothing is below 0, though the class would do", z.best(0), NONE);
        z.tune(0, 12);
        due("12 by -1 does", z.best(0), 0);
        FeltZither w = strings(60, 4, 8);
        w.blank();
        chords(w, 13);
        due("nothing is above 60, though the class would do", w.best(0), NONE);
        w.tune(0, 48);
        due("48 by 1 does", w.best(0), 0);
    }

    private static void bestOfTheLastString() {
        FeltZither x = new FeltZither();
        x.string(24, false);
        x.string(28, false);
        for (int s = 2; s < 35; s++) {
            x.string(24, false);
        }
        x.string(32, false);
        x.blank();
        chords(x, C);
        due("the last STRING", x.best(0), 35);
        due("by -1", x.best(1), -1);
        due("how many", x.best(2), 1);
        due("as otherwise tells", x.otherwise(35, -1), 1);
    }
}

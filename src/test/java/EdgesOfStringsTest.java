/** The edges that the document tells of STRINGS, CHORDS, BARS, FELTS, CLASSES, HOLD and STRUM. */
public final class EdgesOfStringsTest extends Bench {
    /** By SORT: the classes above the ROOT, as the document tells them. */
    private static final int[][] SORTS = {
        {0, 4, 7}, {0, 3, 7}, {0, 4, 7, 10}, {0, 3, 7, 10}, {0, 3, 6}, {0, 5, 7}, {0, 4, 7, 11}, {0, 4, 8}
    };

    public static void main(String[] args) {
        stringsAre36Ever();
        for (int many : new int[] {0, 1, 35, 36}) {
            onlyStringsThatThereAre(many);
        }
        tonesAre0To60();
        classIsTheTonesRestBy12();
        freeOrNot();
        chordsAre0To95();
        chordsClasses();
        barsAre12AtMost();
        barsAreNumberedByThoseAhead();
        for (int many : new int[] {0, 1, 11, 12}) {
            onlyBarsThatThereAre(many);
            setsOfBars(many);
        }
        feltsNeverOnFreeStrings();
        feltsOfAChordsBar();
        feltsAsStringsAreThen();
        kinds();
        cutByHandHasNoneAtFirst();
        putAndTaken();
        wornAndWhole();
        wornNeedsAFelt();
        soundsWithoutAWholeFelt();
        classesOfASet();
        givesJustTheClasses();
        lackOfAChord();
        holdOfOne();
        holdOfTwo();
        holdOfNone();
        holdsOfOneTwoNone();
        strumOfFew();
        strumOfMany();
        whatIsAsked();
        tuneTellsWhatItWas();
        CHECK.finish();
    }

    private static void stringsAre36Ever() {
        FeltZither x = new FeltZither();
        for (int s = 0; s < 36; s++) {
            due("STRINGS are numbered from 0 on as they come", x.string(s, s % 2 == 1), s);
        }
        due("STRINGS, 36 ever: a 37th", x.string(0, false), FULL);
        due("STRINGS, 36 ever: a 37th that is FREE", x.string(60, true), FULL);
        due("STRINGS, 36 ever: there are", x.told(0), 36);
        due("STRINGS, 36 ever: FREE ones among them", x.told(1), 18);
        due("string: OUTSIDE ahead of FULL", x.string(61, false), OUTSIDE);
        due("string: OUTSIDE ahead of FULL, below", x.string(-1, true), OUTSIDE);
        x.offer(C);
        x.build(1);
        x.build(0);
        x.unhear();
        due("STRINGS, 36 ever: none goes", x.string(0, false), FULL);
    }

    /** Of so many strings, the first and the last are known to each call that names one. */
    private static void onlyStringsThatThereAre(int many) {
        FeltZither x = new FeltZither();
        for (int s = 0; s < many; s++) {
            x.string(30, false);
        }
        x.bar(C);
        takesOnly("ofString: UNKNOWN", 0, many - 1, UNKNOWN, s -> x.ofString(s, 0));
        takesOnly("tune: UNKNOWN", 0, many - 1, UNKNOWN, s -> x.tune(s, 30));
        takesOnly("felt: UNKNOWN", 0, many - 1, UNKNOWN, s -> x.felt(0, s, true));
        takesOnly("wear: UNKNOWN", 0, many - 1, UNKNOWN, s -> x.wear(0, s, false));
        takesOnly("has: UNKNOWN", 0, many - 1, UNKNOWN, s -> x.has(0, s));
        takesOnly("sounds: UNKNOWN", 0, many - 1, UNKNOWN, s -> x.sounds(0, s));
        takesOnly("sure: UNKNOWN", 0, many - 1, UNKNOWN, s -> x.sure(0, s));
        takesOnly("otherwise: UNKNOWN", 0, many - 1, UNKNOWN, s -> x.otherwise(s, 1));
        due("as many STRINGS as before", x.told(0), many);
    }

    private static void tonesAre0To60() {
        FeltZither x = new FeltZither();
        takesOnly("string: a TONE (0 .. 60)", 0, 60, OUTSIDE, tone -> x.string(tone, false));
        takesOnly("string: a FREE one's TONE (0 .. 60)", 0, 60, OUTSIDE, tone -> x.string(tone, true));
        due("as many as were taken", x.told(0), 4);
        due("the TONE 0", x.ofString(0, 0), 0);
        due("the TONE 60", x.ofString(1, 0), 60);
        takesOnly("tune: a TONE (0 .. 60)", 0, 60, OUTSIDE, tone -> x.tune(0, tone));
        due("tuned to 60, and no further", x.ofString(0, 0), 60);
        takesOnly("tune: a FREE one's TONE (0 .. 60)", 0, 60, OUTSIDE, tone -> x.tune(2, tone));
    }

    private static void classIsTheTonesRestBy12() {
        FeltZither x = strings(0);
        for (int tone = 0; tone <= 60; tone++) {
            x.tune(0, tone);
            due("its CLASS is its TONE's rest by 12: " + tone, x.ofString(0, 2), tone % 12);
            due("as a bit: " + tone, x.classes(0), 1 << tone % 12);
        }
    }

    private static void freeOrNot() {
        FeltZither x = new FeltZither();
        due("no FREE ones", x.told(1), 0);
        for (int s = 0; s < 36; s++) {
            x.string(24, s > 0);
        }
        due("not FREE", x.ofString(0, 1), 0);
        due("FREE", x.ofString(1, 1), 1);
        due("FREE, the last", x.ofString(35, 1), 1);
        due("all FREE but one", x.told(1), 35);
        x.tune(1, 25);
        due("it stays FREE", x.ofString(1, 1), 1);
        due("one class: FREE ones have none", x.told(6), 1);
    }

    private static void chordsAre0To95() {
        FeltZither x = new FeltZither();
        takesOnly("chord: CHORDS 0 .. 95", 0, 95, OUTSIDE, x::chord);
        takesOnly("bar: CHORDS 0 .. 95", 0, 95, OUTSIDE, x::bar);
        takesOnly("gives: CHORDS 0 .. 95", 0, 95, OUTSIDE, chord -> x.gives(0, chord));
        takesOnly("lack: CHORDS 0 .. 95", 0, 95, OUTSIDE, x::lack);
        takesOnly("hold: CHORDS 0 .. 95", 0, 95, OUTSIDE, x::hold);
        takesOnly("offer: CHORDS 0 .. 95", 0, 95, OUTSIDE, x::offer);
        due("as many BARS as were taken", x.told(2), 2);
        due("the CHORD 0", x.ofBar(0, 1), 0);
        due("the CHORD 95", x.ofBar(1, 1), 95);
    }

    private static int classesOf(int chord) {
        int classes = 0;
        for (int above : SORTS[chord / 12]) {
            classes |= 1 << (chord % 12 + above) % 12;
        }
        return classes;
    }

    private static void chordsClasses() {
        FeltZither x = new FeltZither();
        for (int chord = 0; chord < 96; chord++) {
            due("classes above the ROOT (rests by 12): " + chord, x.chord(chord), classesOf(chord));
        }
        due("the last ROOT of the first SORT: 11 3 6", x.chord(11), 1 << 11 | 1 << 3 | 1 << 6);
        due("the first ROOT of the second: 0 3 7", x.chord(12), 1 | 1 << 3 | 1 << 7);
        due("the last ROOT of the last SORT: 11 3 7", x.chord(95), 1 << 11 | 1 << 3 | 1 << 7);
        due("a SEVENTH over the end: 5 9 0 3", x.chord(29), 1 << 5 | 1 << 9 | 1 | 1 << 3);
    }

    private static void barsAre12AtMost() {
        FeltZither x = new FeltZither();
        FeltZither y = new FeltZither();
        for (int b = 0; b < 12; b++) {
            due("BARS, 12 at most: by hand", x.blank(), b);
            due("BARS, 12 at most: of CHORDS", y.bar(b), b);
        }
        due("BARS, 12 at most: a 13th by hand", x.blank(), FULL);
        due("BARS, 12 at most: a 13th of a CHORD", x.bar(C), FULL);
        due("BARS, 12 at most: a 13th by hand, of CHORDS", y.blank(), FULL);
        due("BARS, 12 at most: a 13th, of CHORDS", y.bar(95), FULL);
        due("bar: OUTSIDE ahead of FULL", x.bar(96), OUTSIDE);
        due("bar: OUTSIDE ahead of FULL, below", x.bar(-1), OUTSIDE);
        due("BARS, 12 at most: there are", x.told(2), 12);
        due("at most, not ever: all go", x.build(0), 0);
        for (int b = 0; b < 12; b++) {
            due("at most, not ever: they come anew", b % 2 == 0 ? x.blank() : x.bar(b), b);
        }
        due("BARS, 12 at most: a 13th, anew", x.blank(), FULL);
    }

    private static void barsAreNumberedByThoseAhead() {
        FeltZither x = new FeltZither();
        for (int k = 0; k < 12; k++) {
            x.offer(k);
        }
        due("all BARS of 12 OFFERS", x.build(4095), 12);
        due("12 at most", x.bar(C), FULL);
        due("12 at most, by hand", x.blank(), FULL);
        due("BARS of the last 11", x.build(4094), 11);
        due("numbered by how many there are ahead", x.blank(), 11);
        due("then 12 again", x.bar(C), FULL);
        x.build(1 << 11);
        due("one ahead", x.bar(C), 1);
        x.build(0);
        due("none ahead (the first one is 0)", x.bar(C), 0);
        due("those that went are UNKNOWN", x.ofBar(1, 0), UNKNOWN);
    }

    /** Of so many bars, the first and the last are known to each call that names one. */
    private static void onlyBarsThatThereAre(int many) {
        FeltZither x = strings(25);
        for (int k = 0; k < 12; k++) {
            x.offer(k < 10 ? 60 + k : 70 + k);
        }
        due("all", x.build(4095), 12);
        x.build(0);
        for (int b = 0; b < many; b++) {
            x.blank();
            x.felt(b, 0, true);
        }
        takesOnly("felt: UNKNOWN", 0, many - 1, UNKNOWN, b -> x.felt(b, 0, true));
        takesOnly("wear: UNKNOWN", 0, many - 1, UNKNOWN, b -> x.wear(b, 0, false));
        takesOnly("ofBar: UNKNOWN", 0, many - 1, UNKNOWN, b -> x.ofBar(b, 0));
        takesOnly("has: UNKNOWN", 0, many - 1, UNKNOWN, b -> x.has(b, 0));
        takesOnly("change: UNKNOWN, both", 0, many - 1, UNKNOWN, b -> x.change(b, b));
        takesOnly("change: UNKNOWN, one", 0, many - 1, UNKNOWN, b -> x.change(b, 0));
        takesOnly("change: UNKNOWN, the other", 0, many - 1, UNKNOWN, b -> x.change(0, b));
        takesOnly("sure: UNKNOWN", 0, many - 1, UNKNOWN, b -> x.sure(b, 0));
        takesOnly("tell: UNKNOWN", 0, many - 1, UNKNOWN, x::tell);
        takesOnly("name: UNKNOWN", 0, many - 1, UNKNOWN, x::name);
        takesOnly("as: UNKNOWN", 0, many - 1, UNKNOWN, b -> x.as(b, 0));
        due("as many BARS as before", x.told(2), many);
    }

    private static void setsOfBars(int many) {
        FeltZither x = strings(25);
        for (int b = 0; b < many; b++) {
            x.blank();
        }
        fill(x, 0, 0, 2);
        takesSetsOf("sounds: BARS", many, set -> x.sounds(set, 0));
        takesSetsOf("classes: BARS", many, x::classes);
        takesSetsOf("gives: BARS", many, set -> x.gives(set, C));
        takesSetsOf("strum: BARS", many, set -> x.strum(set, 0));
        takesSetsOf("heard: BARS", many, set -> x.heard(set, 0, 0, 0));
        due("as many rows as were taken", x.told(5), 2);
    }

    private static void feltsNeverOnFreeStrings() {
        FeltZither x = new FeltZither();
        x.string(25, true);
        x.string(25, false);
        x.bar(C);
        due("never on FREE ones: a BAR of a CHORD", x.has(0, 0), 0);
        due("but on the other", x.has(0, 1), 2);
        x.blank();
        due("STATE: the STRING is FREE", x.felt(1, 0, true), STATE);
        due("STATE: the STRING is FREE, to be taken", x.felt(1, 0, false), STATE);
        due("none came", x.has(1, 0), 0);
        due("a FREE one has none to wear", x.wear(0, 0, true), UNKNOWN);
        due("a FREE one has none to be sure of", x.sure(0, 0), UNKNOWN);
        due("felt: UNKNOWN ahead of STATE", x.felt(2, 0, true), UNKNOWN);
        due("felt: UNKNOWN ahead of STATE, below", x.felt(-1, 0, false), UNKNOWN);
        due("the one that is not FREE", x.felt(1, 1, true), 1);
    }

    /** All 96 chords, twelve bars at a time, on strings of all classes in three octaves. */
    private static void feltsOfAChordsBar() {
        for (int sort = 0; sort < 8; sort++) {
            FeltZither x = new FeltZither();
            for (int s = 0; s < 36; s++) {
                x.string(60 - s, s % 7 == 3);
            }
            for (int root = 0; root < 12; root++) {
                x.bar(12 * sort + root);
                for (int s = 0; s < 36; s++) {
                    boolean hushed = s % 7 != 3 && (classesOf(12 * sort + root) >> (60 - s) % 12 & 1) == 0;
                    due("one on each STRING not FREE whose CLASS is not the CHORD's", x.has(root, s), hushed ? 2 : 0);
                }
            }
        }
    }

    private static void feltsAsStringsAreThen() {
        FeltZither x = new FeltZither();
        x.bar(C);
        due("no STRINGS, no FELTS", x.ofBar(0, 2), 0);
        x.string(25, false);
        due("one that comes later gets none from it", x.has(0, 0), 0);
        due("so it SOUNDS", x.sounds(1, 0), 1);
        x.bar(C);
        due("but from a later BAR", x.has(1, 0), 2);
        x.tune(0, 24);
        due("tune: FELTS stay", x.has(1, 0), 2);
        x.tune(0, 25);
        due("tune: none comes", x.has(0, 0), 0);
        x.tune(0, 24);
        x.bar(C);
        due("as STRINGS are then", x.has(2, 0), 0);
    }

    private static void kinds() {
        for (int sort = 0; sort < 8; sort++) {
            FeltZither x = new FeltZither();
            boolean seventh = sort == 2 || sort == 3 || sort == 6;
            for (int root = 0; root < 12; root++) {
                x.bar(12 * sort + root);
                due("its kind is 1, of SORTS 2, 3, 6: 2", x.ofBar(root, 0), seventh ? 2 : 1);
                due("its CHORD", x.ofBar(root, 1), 12 * sort + root);
            }
        }
    }

    private static void cutByHandHasNoneAtFirst() {
        FeltZither x = chromatic(36);
        x.offer(C);
        x.build(1);
        x.wear(0, 1, true);
        x.build(0);
        x.blank();
        due("a BAR cut by hand (0)", x.ofBar(0, 0), 0);
        due("its CHORD (NONE)", x.ofBar(0, 1), NONE);
        due("has none at first", x.ofBar(0, 2), 0);
        due("no WORN one", x.ofBar(0, 3), 0);
        due("hushes nothing", x.strum(1, 0), 36);
        for (int s = 0; s < 36; s++) {
            due("has none at first", x.has(0, s), 0);
        }
    }

    private static void putAndTaken() {
        FeltZither x = chromatic(36);
        x.blank();
        x.blank();
        for (int s : new int[] {0, 35}) {
            due("felt: it was not there", x.felt(1, s, false), 0);
            due("felt: it is put", x.felt(1, s, true), 1);
            due("felt: whole", x.has(1, s), 2);
            due("felt: it was there", x.felt(1, s, true), 0);
            x.wear(1, s, true);
            due("felt: it was there, WORN", x.felt(1, s, true), 0);
            due("felt: a WORN one stays WORN", x.has(1, s), 1);
            due("felt: it is taken", x.felt(1, s, false), 1);
            due("felt: none", x.has(1, s), 0);
            due("felt: it was not there any more", x.felt(1, s, false), 0);
            due("felt: none is WORN", x.ofBar(1, 3), 0);
            due("felt: it is put again", x.felt(1, s, true), 1);
            due("felt: whole again", x.has(1, s), 2);
        }
        due("both", x.ofBar(1, 2), 2);
        due("of the other BAR none", x.ofBar(0, 2), 0);
    }

    private static void wornAndWhole() {
        FeltZither x = chromatic(36);
        x.blank();
        x.blank();
        for (int s : new int[] {0, 35}) {
            x.felt(0, s, true);
            x.felt(1, s, true);
            due("wear: whole, it was so", x.wear(1, s, false), 0);
            due("wear: it becomes WORN", x.wear(1, s, true), 1);
            due("wear: WORN, it was so", x.wear(1, s, true), 0);
            due("has: WORN", x.has(1, s), 1);
            due("has: the other BAR's is whole", x.has(0, s), 2);
            due("ofString: a whole FELT on it", x.ofString(s, 3), 1);
            due("wear: it becomes whole", x.wear(1, s, false), 1);
            due("has: whole", x.has(1, s), 2);
            due("ofString: whole FELTS on it", x.ofString(s, 3), 2);
            x.wear(0, s, true);
            x.wear(1, s, true);
            due("ofString: no whole FELT on it", x.ofString(s, 3), 0);
        }
        due("ofBar: all are WORN", x.ofBar(1, 3), 2);
        due("ofBar: and FELTS all the same", x.ofBar(1, 2), 2);
    }

    private static void wornNeedsAFelt() {
        FeltZither x = chromatic(2);
        x.blank();
        x.blank();
        x.felt(0, 0, true);
        due("wear: UNKNOWN: there is no FELT", x.wear(0, 1, true), UNKNOWN);
        due("wear: UNKNOWN: there is no FELT to be whole", x.wear(0, 1, false), UNKNOWN);
        due("wear: UNKNOWN: of the other BAR", x.wear(1, 0, true), UNKNOWN);
        due("none came", x.has(0, 1), 0);
        due("sure: UNKNOWN: there is no FELT", x.sure(0, 1), UNKNOWN);
        due("sure: UNKNOWN: of the other BAR", x.sure(1, 0), UNKNOWN);
        x.felt(0, 0, false);
        due("wear: UNKNOWN: it was taken", x.wear(0, 0, true), UNKNOWN);
        due("sure: UNKNOWN: it was taken", x.sure(0, 0), UNKNOWN);
    }

    private static void soundsWithoutAWholeFelt() {
        FeltZither x = chromatic(36);
        for (int b = 0; b < 12; b++) {
            x.blank();
        }
        x.felt(11, 0, true);
        x.felt(11, 35, true);
        x.felt(0, 35, true);
        due("no BAR pressed", x.sounds(0, 35), 1);
        due("all but the last", x.sounds(2047, 0), 1);
        due("the last BAR", x.sounds(1 << 11, 0), 0);
        due("the first BAR", x.sounds(1, 35), 0);
        due("all BARS, a STRING without FELTS", x.sounds(4095, 34), 1);
        due("all BARS", x.sounds(4095, 0), 0);
        x.wear(11, 35, true);
        due("a WORN one does not hush", x.sounds(1 << 11, 35), 1);
        due("one whole one is enough", x.sounds(1 << 11 | 1, 35), 0);
        x.wear(0, 35, true);
        due("both are WORN", x.sounds(1 << 11 | 1, 35), 1);
        due("sounds: UNKNOWN ahead of OUTSIDE", x.sounds(1 << 12, 36), UNKNOWN);
        due("sounds: UNKNOWN ahead of OUTSIDE, below", x.sounds(-1, -1), UNKNOWN);
    }

    private static void classesOfASet() {
        FeltZither x = new FeltZither();
        due("no STRINGS, no CLASSES", x.classes(0), 0);
        due("none", x.told(6), 0);
        x.string(25, true);
        due("FREE ones do not count", x.classes(0), 0);
        due("FREE ones do not count", x.told(6), 0);
        for (int s = 1; s < 36; s++) {
            x.string(s == 35 ? 59 : 24 + s % 11, false);
        }
        due("all: the class 11 by the last STRING", x.classes(0), 4095);
        due("all", x.told(6), 12);
        x.bar(C);
        due("those of the STRINGS that SOUND", x.classes(1), 1 | 1 << 4 | 1 << 7);
        due("ofBar: CLASSES of it alone", x.ofBar(0, 4), 1 | 1 << 4 | 1 << 7);
        x.bar(F);
        due("of two BARS", x.classes(3), 1);
        x.bar(1);
        due("of three BARS none", x.classes(7), 0);
        due("ofBar: alone, whatever else there is", x.ofBar(2, 4), 1 << 1 | 1 << 5 | 1 << 8);
        x.felt(0, 35, false);
        due("the class of the last STRING", x.classes(1), 1 | 1 << 4 | 1 << 7 | 1 << 11);
    }

    private static void givesJustTheClasses() {
        FeltZither x = strings(0, 4, 7, 10, 36, 48);
        due("no BAR pressed: four classes are not three", x.gives(0, C), 0);
        due("no BAR pressed: just the four", x.gives(0, C_SEVENTH), 1);
        cut(x, new int[] {3}, new int[] {0}, new int[] {4, 5});
        due("just the CHORD's", x.gives(1, C), 1);
        due("one class less", x.gives(1, C_SEVENTH), 0);
        due("other STRINGS of the class are left", x.gives(3, C), 1);
        due("the class is gone with three", x.gives(7, C), 0);
        due("a CHORD of another ROOT", x.gives(1, 1), 0);
        x.string(1, true);
        due("FREE ones do not count", x.gives(1, C), 1);
        x.wear(0, 3, true);
        due("a class more by a WORN one", x.gives(1, C), 0);
        FeltZither y = strings(0, 4, 8);
        due("CHORDS of the same classes: 84", y.gives(0, 84), 1);
        due("CHORDS of the same classes: 88", y.gives(0, 88), 1);
        due("CHORDS of the same classes: 92", y.gives(0, 92), 1);
        due("no STRINGS give nothing", new FeltZither().gives(0, C), 0);
        FeltZither z = strings(0, 4, 7, 1, 2, 3, 5);
        cut(z, new int[] {3}, new int[] {4}, new int[] {5}, new int[] {6});
        due("a set of more than two GIVES, too", z.gives(15, C), 1);
    }

    private static void lackOfAChord() {
        FeltZither x = new FeltZither();
        due("no STRINGS: all of the CHORD's", x.lack(95), 1 << 11 | 1 << 3 | 1 << 7);
        x.string(24, true);
        due("FREE ones do not count", x.lack(C), 1 | 1 << 4 | 1 << 7);
        x.string(48, false);
        due("a STRING not FREE has it", x.lack(C), 1 << 4 | 1 << 7);
        x.string(4, false);
        x.string(55, false);
        due("none", x.lack(C), 0);
        due("of a SEVENTH", x.lack(C_GREAT_SEVENTH), 1 << 11);
        x.blank();
        x.felt(0, 1, true);
        due("whatever BARS hush", x.lack(C), 0);
        x.tune(1, 49);
        due("with the TONE it has now", x.lack(C), 1);
    }

    private static void holdOfOne() {
        FeltZither x = strings(24, 28, 31);
        due("no BARS: none, though no BAR would GIVE it", x.hold(C), NONE);
        for (int b = 0; b < 12; b++) {
            x.blank();
        }
        due("the first BAR, by number", x.hold(C), 1);
        x.felt(0, 0, true);
        due("the next one", x.hold(C), 2);
        x.change(1, 2);
        due("by number, not by PLACE", x.hold(C), 2);
        for (int b = 1; b < 11; b++) {
            x.felt(b, 0, true);
        }
        due("the last one alone", x.hold(C), 1 << 11);
        x.wear(0, 0, true);
        due("the first one, with a WORN FELT", x.hold(C), 1);
    }

    /** Strings of C, and three beside them that must be hushed. */
    private static void holdOfTwo() {
        FeltZither x = strings(24, 28, 31, 25, 26, 27);
        int[] none = {};
        cut(x, new int[] {3}, new int[] {3, 4}, new int[] {5}, none, none, none, none, none, none, none, none,
                new int[] {4, 5});
        due("by the lesser number first, then the greater", x.hold(C), 1 | 1 << 11);
        x.felt(0, 5, true);
        due("the greater: the lesser of several", x.hold(C), 1 | 1 << 1);
        x.felt(0, 5, false);
        x.felt(11, 4, false);
        due("the next lesser one", x.hold(C), 1 << 1 | 1 << 2);
        x.felt(2, 5, false);
        due("the greater one of the same lesser", x.hold(C), 1 << 1 | 1 << 11);
        x.felt(1, 3, false);
        due("the two are no more", x.hold(C), NONE);
        x.felt(10, 3, true);
        x.felt(10, 4, true);
        due("the last two", x.hold(C), 1 << 10 | 1 << 11);
        x.felt(11, 3, true);
        x.felt(11, 4, true);
        due("one alone comes ahead of two, though it is the last", x.hold(C), 1 << 11);
    }

    private static void holdOfNone() {
        FeltZither x = strings(24, 28, 31, 25, 26, 27);
        cut(x, new int[] {3});
        due("one BAR that does not GIVE it", x.hold(C), NONE);
        cut(x, new int[] {4}, new int[] {5});
        due("three would GIVE it", x.gives(7, C), 1);
        due("three are no HOLD", x.hold(C), NONE);
        due("no STRINGS", new FeltZither().hold(95), NONE);
    }

    private static void holdsOfOneTwoNone() {
        FeltZither x = strings(24, 28, 31, 25, 32);
        takesOnly("holds: one BAR, two, none", 0, 2, OUTSIDE, x::holds);
        due("no BARS: none has a HOLD", x.holds(0), 96);
        due("no BARS: of one", x.holds(1), 0);
        due("no BARS: of two", x.holds(2), 0);
        cut(x, new int[] {3}, new int[] {4});
        due("of two: C", x.holds(2), 1);
        due("of one: none", x.holds(1), 0);
        due("no HOLD: all but one", x.holds(0), 95);
        cut(x, new int[] {2, 3});
        due("of one: the three alike (84, 88, 92)", x.holds(1), 3);
        due("of two: C still", x.holds(2), 1);
        due("no HOLD", x.holds(0), 92);
        FeltZither y = strings(24, 28, 31);
        y.blank();
        y.blank();
        due("one BAR counts ahead of two", y.holds(1), 1);
        due("so none is of two", y.holds(2), 0);
    }

    private static void strumOfFew() {
        FeltZither x = new FeltZither();
        due("none: how many", x.strum(0, 0), 0);
        due("none: the lowest (NONE)", x.strum(0, 1), NONE);
        due("none: the highest (NONE)", x.strum(0, 2), NONE);
        due("none: the greatest step (0)", x.strum(0, 3), 0);
        x.string(60, false);
        due("one: how many", x.strum(0, 0), 1);
        due("one: the lowest", x.strum(0, 1), 60);
        due("one: the highest", x.strum(0, 2), 60);
        due("one: the greatest step (0)", x.strum(0, 3), 0);
        x.string(60, true);
        due("two of one TONE: how many", x.strum(0, 0), 2);
        due("two of one TONE: the greatest step", x.strum(0, 3), 0);
        x.string(0, true);
        due("the lowest TONE of all", x.strum(0, 1), 0);
        due("the highest TONE of all", x.strum(0, 2), 60);
        due("the greatest step of all", x.strum(0, 3), 60);
        x.blank();
        x.felt(0, 0, true);
        due("FREE ones SOUND, too", x.strum(1, 0), 2);
        due("FREE ones SOUND, too: the step", x.strum(1, 3), 60);
        FeltZither y = strings(30);
        y.blank();
        y.felt(0, 0, true);
        due("all hushed: how many", y.strum(1, 0), 0);
        due("all hushed: the lowest (NONE)", y.strum(1, 1), NONE);
        due("all hushed: the highest (NONE)", y.strum(1, 2), NONE);
        due("all hushed: the greatest step", y.strum(1, 3), 0);
        takesOnly("strum: what", 0, 3, OUTSIDE, what -> y.strum(0, what));
        takesOnly("strum: what, of none", 0, 3, OUTSIDE, what -> y.strum(1, what));
        due("strum: a set that is none's, and what", y.strum(2, 4), OUTSIDE);
    }

    private static void strumOfMany() {
        FeltZither x = strings(10, 50, 12, 30, 31);
        due("between TONES next to one another by height, not as they came", x.strum(0, 3), 19);
        x.string(40, true);
        due("a FREE one between", x.strum(0, 3), 18);
        x.tune(5, 22);
        due("with the TONE it has now", x.strum(0, 3), 19);
        for (int s = 6; s < 36; s++) {
            x.string(58, false);
        }
        due("36 STRINGS", x.strum(0, 0), 36);
        due("the highest", x.strum(0, 2), 58);
        due("the lowest", x.strum(0, 1), 10);
    }

    private static void whatIsAsked() {
        FeltZither x = chromatic(12);
        x.bar(C);
        takesOnly("ofString: what", 0, 3, OUTSIDE, what -> x.ofString(0, what));
        takesOnly("ofBar: what", 0, 5, OUTSIDE, what -> x.ofBar(0, what));
        due("ofString: UNKNOWN ahead of OUTSIDE", x.ofString(12, 4), UNKNOWN);
        due("ofString: UNKNOWN ahead of OUTSIDE, below", x.ofString(-1, -1), UNKNOWN);
        due("ofBar: UNKNOWN ahead of OUTSIDE", x.ofBar(1, 6), UNKNOWN);
        due("ofBar: UNKNOWN ahead of OUTSIDE, below", x.ofBar(-1, -1), UNKNOWN);
        for (int b = 1; b < 12; b++) {
            x.bar(C);
        }
        due("12 whole FELTS on a STRING", x.ofString(1, 3), 12);
        due("none on one of the CHORD's", x.ofString(0, 3), 0);
        due("the last PLACE", x.ofBar(11, 5), 11);
        FeltZither y = strings(0);
        y.bar(95);
        for (int s = 1; s < 36; s++) {
            y.string(0, false);
        }
        y.bar(95);
        due("a FELT on one STRING", y.ofBar(0, 2), 1);
        due("FELTS on 36 STRINGS", y.ofBar(1, 2), 36);
        for (int s = 0; s < 36; s++) {
            y.wear(1, s, true);
        }
        due("36 WORN ones", y.ofBar(1, 3), 36);
    }

    private static void tuneTellsWhatItWas() {
        FeltZither x = strings(0);
        x.string(60, true);
        due("what it was: 0", x.tune(0, 60), 0);
        due("what it was: 60", x.tune(0, 60), 60);
        due("to what it is already", x.ofString(0, 0), 60);
        due("a FREE one", x.tune(1, 0), 60);
        due("a FREE one's TONE", x.ofString(1, 0), 0);
        due("tune: UNKNOWN ahead of OUTSIDE", x.tune(2, 61), UNKNOWN);
        due("tune: UNKNOWN ahead of OUTSIDE, below", x.tune(-1, -1), UNKNOWN);
    }
}

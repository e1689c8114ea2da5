/** The edges that the document tells of PLACES, WAYS, GRIPS and TROUBLE. */
public final class EdgesOfTheFrameTest extends Bench {
    private static final int[] NO_FELTS = {};

    public static void main(String[] args) {
        placesAreNumbersAtFirst();
        changeOfTwo();
        wayOfNothing();
        wayOfStepsWithAHold();
        wayOfLeastBars();
        wayOfAllSongsTogether();
        leastWayOfNothing();
        leastWayOverAllWays();
        leastWayOfABarToItself();
        leastWayOfFewerBars();
        firstRowOfBars();
        firstRowOfTwelve();
        arrangeTellsHowMany();
        arrangedTwelve();
        troubleWithoutStrings();
        troubleByClasses();
        troubleByANote();
        troubleByChanges();
        troubleOfMany();
        twoBarsAtMost();
        leastTroubleNotTheHold();
        gripsByNumber();
        gripsOfTwoByNumber();
        firstRowOfGrips();
        pressedWhereItIsLeast();
        lateStepsDecideWhereTroubleDoes();
        gripsByTheKey();
        CHECK.finish();
    }

    private static void placesAreNumbersAtFirst() {
        FeltZither x = new FeltZither();
        for (int b = 0; b < 6; b++) {
            x.blank();
            x.bar(b);
        }
        for (int b = 0; b < 12; b++) {
            due("a PLACE is at first its number", x.ofBar(b, 5), b);
        }
        FeltZither y = new FeltZither();
        y.blank();
        y.blank();
        y.change(0, 1);
        y.bar(C);
        due("a later BAR's is its number, too", y.ofBar(2, 5), 2);
        due("the others stay as they were changed", y.ofBar(0, 5), 1);
        due("no two have one", y.ofBar(1, 5), 0);
    }

    private static void changeOfTwo() {
        FeltZither x = new FeltZither();
        due("UNKNOWN: no BARS", x.change(0, 0), UNKNOWN);
        for (int b = 0; b < 12; b++) {
            x.blank();
        }
        due("0: they are one", x.change(11, 11), 0);
        due("its PLACE stays", x.ofBar(11, 5), 11);
        due("the first and the last", x.change(0, 11), 1);
        due("the first one's PLACE", x.ofBar(0, 5), 11);
        due("the last one's PLACE", x.ofBar(11, 5), 0);
        due("by number, not by PLACE", x.change(11, 1), 1);
        due("the last one's PLACE", x.ofBar(11, 5), 1);
        due("that one's", x.ofBar(1, 5), 0);
        due("UNKNOWN: two that are one, but none's", x.change(12, 12), UNKNOWN);
        int places = 0;
        for (int b = 0; b < 12; b++) {
            places |= 1 << x.ofBar(b, 5);
        }
        due("no two have one; 0 .. how many BARS less 1", places, 4095);
    }

    private static void wayOfNothing() {
        FeltZither x = chromatic(12);
        due("no SONGS, no BARS", x.way(), 0);
        chords(x, C, G);
        due("no BARS: no HOLD", x.way(), 0);
        bars(x, C, F, G);
        due("two STEPS", x.way(), 2);
        FeltZither y = chromatic(12);
        bars(y, C, F, G);
        due("no SONGS", y.way(), 0);
        chords(y, G);
        chords(y, C);
        due("of one STEP there is no way, nor from SONG to SONG", y.way(), 0);
        chords(y, G, G, G);
        due("nor from a BAR to itself", y.way(), 0);
    }

    private static void wayOfStepsWithAHold() {
        FeltZither x = chromatic(12);
        bars(x, C, F, G);
        int g = chords(x, C, 1, G);
        due("STEPS one behind the other that both have a HOLD: none here", x.way(), 0);
        x.key(g, 5);
        due("by its KEY: F, none, C", x.way(), 0);
        FeltZither y = chromatic(12);
        bars(y, C, F, G);
        int h = chords(y, 1, C, G, 1);
        due("neither from nor to one that has none", y.way(), 2);
        y.key(h, 5);
        due("by its KEY: none, F, C, none", y.way(), 1);
        y.wear(1, 1, true);
        due("F has no HOLD now", y.way(), 0);
    }

    private static void wayOfLeastBars() {
        FeltZither x = chromatic(12);
        bars(x, G, C_SEVENTH, F, C_GREAT_SEVENTH);
        chords(x, G, C);
        due("HOLD of two", x.hold(C), 1 << 1 | 1 << 3);
        due("the least BAR of it", x.way(), 1);
        x.change(1, 3);
        due("the least by number, not by PLACE", x.way(), 3);
        x.change(0, 3);
        due("the distance either way", x.way(), 2);
        FeltZither y = chromatic(12);
        bars(y, G, C_SEVENTH, F, C_GREAT_SEVENTH);
        chords(y, C, G);
        due("the least BAR of the first of both", y.way(), 1);
        chords(y, C, C_GREAT_SEVENTH);
        due("from the least BAR of a HOLD to one of its BARS", y.way(), 1 + 2);
        chords(y, C_SEVENTH, C, C_SEVENTH);
        due("they have one least BAR", y.way(), 1 + 2);
    }

    private static void wayOfAllSongsTogether() {
        FeltZither x = chromatic(12);
        for (int chord = 0; chord < 12; chord++) {
            x.bar(chord);
        }
        x.sheet(0, 0, 48);
        for (int i = 0; i < 24; i++) {
            x.put(0, 2 * i, 11 * (i % 2));
        }
        for (int g = 0; g < 8; g++) {
            x.song(0, 0, 0, 24);
            due("WAY: of all SONGS together", x.way(), 23 * 11 * (g + 1));
            due("LEAST WAY: of all SONGS together", x.least(), 23 * (g + 1));
        }
        x.change(1, 11);
        due("next to one another", x.way(), 8 * 23);
        x.change(0, 6);
        due("the other way round", x.way(), 8 * 23 * 5);
    }

    private static void leastWayOfNothing() {
        FeltZither x = chromatic(12);
        due("no BARS", x.least(), 0);
        due("no BARS to be put", x.arrange(), 0);
        chords(x, C, F, C);
        due("no BARS, a SONG", x.least(), 0);
        due("no BARS to be put, a SONG", x.arrange(), 0);
        bars(x, C);
        due("one BAR", x.least(), 0);
        due("one BAR to be put", x.arrange(), 0);
        bars(x, F);
        due("two BARS", x.least(), 2);
        due("two BARS to be put", x.arrange(), 0);
    }

    private static void leastWayOverAllWays() {
        FeltZither x = chromatic(12);
        bars(x, C, F, G, A_MINOR);
        chords(x, C, A_MINOR, F, G, C);
        due("a ring of four", x.least(), 6);
        due("as BARS stand", x.way(), 3 + 2 + 1 + 2);
        x.change(0, 3);
        due("LEAST, whatever way they stand", x.least(), 6);
        due("they are not put", x.ofBar(0, 5), 3);
        due("nor the other one", x.ofBar(3, 5), 0);
    }

    private static void leastWayOfABarToItself() {
        FeltZither x = chromatic(12);
        bars(x, C, F, G);
        chords(x, G, G, G, G, G, G);
        due("from a BAR to itself there is no way", x.least(), 0);
        due("so all ways are LEAST: the first is by number", x.arrange(), 0);
        chords(x, F, F, F, G, C);
        due("F, G, C", x.least(), 2);
        due("C G F comes ahead of F G C as a row of BARS", x.arrange(), 2);
        due("C", x.ofBar(0, 5), 0);
        due("F", x.ofBar(1, 5), 2);
        due("G", x.ofBar(2, 5), 1);
    }

    private static void leastWayOfFewerBars() {
        FeltZither x = chromatic(12);
        offers(x, C, F, G, A_MINOR);
        chords(x, C, A_MINOR, C, A_MINOR, C, G, F);
        x.build(15);
        due("four BARS", x.least(), 6);
        x.build(7);
        due("three BARS, as if there had been no fourth", x.least(), 2);
        due("C, G, F", x.arrange(), 2);
        due("WAY", x.way(), 2);
        x.build(8);
        due("one BAR", x.least(), 0);
        x.build(15);
        due("four again", x.least(), 6);
        x.build(0);
        due("no BARS, as if there had been none", x.least(), 0);
        due("no BARS to be put", x.arrange(), 0);
        due("no way", x.way(), 0);
    }

    private static void firstRowOfBars() {
        int[][] moves = {{C, F}, {F, G}, {C, G}, {F, C, G}, {C, F, G}, {C, G, F}};
        int[][] places = {{0, 1, 2}, {0, 1, 2}, {0, 2, 1}, {1, 0, 2}, {0, 1, 2}, {0, 2, 1}};
        for (int k = 0; k < moves.length; k++) {
            FeltZither x = chromatic(12);
            bars(x, C, F, G);
            chords(x, moves[k]);
            x.change(0, 2);
            x.arrange();
            for (int b = 0; b < 3; b++) {
                due("the first as a row of BARS by PLACES: case " + k + ", BAR " + b, x.ofBar(b, 5), places[k][b]);
            }
            due("LEAST WAY", x.way(), moves[k].length - 1);
            due("as it was told", x.least(), moves[k].length - 1);
            due("they stand so already", x.arrange(), 0);
        }
    }

    private static void firstRowOfTwelve() {
        FeltZither x = chromatic(12);
        for (int chord = 0; chord < 12; chord++) {
            x.bar(chord);
        }
        chords(x, 0, 11);
        due("BARS 0, 11, then all others", x.arrange(), 11);
        due("the first one's PLACE", x.ofBar(0, 5), 0);
        due("the last one's PLACE", x.ofBar(11, 5), 1);
        for (int b = 1; b < 11; b++) {
            due("the others, by number", x.ofBar(b, 5), b + 1);
        }
        due("WAY", x.way(), 1);
    }

    private static void arrangeTellsHowMany() {
        FeltZither x = chromatic(12);
        for (int b = 0; b < 12; b++) {
            x.blank();
        }
        due("no SONGS: all ways are LEAST, the first row is by number", x.arrange(), 0);
        x.change(4, 9);
        due("two have another PLACE now", x.arrange(), 2);
        due("again none has", x.arrange(), 0);
        for (int b = 0; b < 6; b++) {
            x.change(b, 11 - b);
        }
        due("all have another PLACE now", x.arrange(), 12);
        for (int b = 0; b < 12; b++) {
            due("by number", x.ofBar(b, 5), b);
        }
    }

    private static void arrangedTwelve() {
        FeltZither x = chromatic(12);
        for (int chord = 0; chord < 12; chord++) {
            x.bar(chord);
        }
        chords(x, 11, 0, 11, 0, 10, 0, 10, 5, 10, 5);
        due("11 0 10 5 in a row", x.least(), 9);
        x.arrange();
        due("WAY", x.way(), 9);
        int[] places = {6, 0, 1, 2, 3, 4, 8, 9, 10, 11, 5, 7};
        for (int b = 0; b < 12; b++) {
            due("as a row: 1 2 3 4, then 5 10 0 11, then 6 7 8 9; BAR " + b, x.ofBar(b, 5), places[b]);
        }
    }

    private static void troubleWithoutStrings() {
        FeltZither x = new FeltZither();
        due("10 for each of the CHORD's that is not among them: 3", x.trouble(chords(x, C)), 30);
        due("10 for each of the CHORD's that is not among them: 4", x.trouble(chords(x, C_SEVENTH)), 40);
        due("and 30 for a NOTE", x.trouble(write(x, C, 0)), 60);
        due("none is pressed", x.grip(2, 0), 0);
        for (int b = 0; b < 12; b++) {
            x.blank();
        }
        due("BARS do not help", x.trouble(0), 30);
        due("so none is pressed", x.grip(0, 0), 0);
    }

    private static void troubleByClasses() {
        FeltZither x = strings(24, 28, 31, 25, 26);
        int g = chords(x, C);
        due("10 for each class that is not the CHORD's", x.trouble(g), 20);
        x.string(37, false);
        due("for each class once", x.trouble(g), 20);
        x.string(27, true);
        due("not for FREE ones", x.trouble(g), 20);
        x.tune(0, 27);
        due("three more and one less", x.trouble(g), 40);
        x.tune(0, 24);
        cut(x, new int[] {3, 5});
        due("a BAR that takes one away", x.trouble(g), 10);
        x.wear(0, 5, true);
        due("not while one of the class is WORN", x.trouble(g), 20);
    }

    private static void troubleByANote() {
        FeltZither x = strings(24, 28, 31);
        x.string(25, true);
        due("none: a NOTE that SOUNDS", x.trouble(write(x, C, 24)), 0);
        due("none: a NOTE by a FREE one", x.trouble(write(x, C, 25)), 0);
        due("30: no STRING of that TONE", x.trouble(write(x, C, 36)), 30);
        due("none: no NOTE", x.trouble(write(x, C, -1)), 0);
        due("30 for each STEP", x.trouble(write(x, C, 36, C, 24, C, 36)), 60);
    }

    private static void troubleByChanges() {
        FeltZither x = strings(24, 28, 31, 34, 35);
        cut(x, new int[] {3}, new int[] {4});
        due("C by two BARS: nothing for the first STEP", x.trouble(chords(x, C)), 0);
        due("C, C7: 2 for a BAR that is lifted", x.trouble(chords(x, C, C_SEVENTH)), 2);
        due("C7, C: 2 for a BAR that is pressed", x.trouble(chords(x, C_SEVENTH, C)), 2);
        due("C7, C with the seventh above: 2 for each of two", x.trouble(chords(x, C_SEVENTH, C_GREAT_SEVENTH)), 4);
        due("to and fro", x.trouble(chords(x, C, C_SEVENTH, C, C_GREAT_SEVENTH, C)), 8);
        due("nothing, if they stay", x.trouble(chords(x, C, C, C)), 0);
        FeltZither y = strings(24, 28, 31, 25, 29, 32);
        cut(y, new int[] {3}, new int[] {4, 5}, new int[] {0}, new int[] {1, 2});
        due("two lifted, two pressed: 2 for each of four", y.trouble(chords(y, C, 1)), 8);
        due("the first two", y.grip(0, 0), 3);
        due("the other two", y.grip(0, 1), 12);
    }

    private static void troubleOfMany() {
        FeltZither x = new FeltZither();
        x.sheet(0, 0, 48);
        for (int i = 0; i < 24; i++) {
            x.put(0, 2 * i, C_SEVENTH);
        }
        x.song(0, 0, 0, 24);
        due("24 STEPS of 4 classes and a NOTE", x.trouble(0), 24 * 70);
        FeltZither y = chromatic(12);
        bars(y, C, F);
        y.sheet(0, 0, 48);
        for (int i = 0; i < 24; i++) {
            y.put(0, 2 * i, i % 2 == 0 ? C : F);
            y.put(0, 2 * i + 1, -1);
        }
        y.song(0, 0, 0, 24);
        due("for each STEP but the first 2 for each BAR", y.trouble(0), 23 * 4);
        due("the first GRIP", y.grip(0, 0), 1);
        due("the last GRIP", y.grip(0, 23), 2);
    }

    private static void twoBarsAtMost() {
        FeltZither x = strings(24, 28, 31, 25, 26, 27);
        cut(x, new int[] {3}, new int[] {4}, new int[] {5});
        int g = chords(x, C);
        due("three would GIVE it", x.gives(7, C), 1);
        due("two BARS at most: one class is left", x.trouble(g), 10);
        due("the first two", x.grip(g, 0), 3);
    }

    private static void leastTroubleNotTheHold() {
        FeltZither x = strings(24, 28, 31, 25);
        cut(x, new int[] {3});
        int g = write(x, C, 25, C, -1);
        due("the HOLD hushes the NOTE: that were 30", x.step(g, 0, 3), 1);
        due("a class more is 10, and a BAR pressed then 2", x.trouble(g), 12);
        due("nothing is pressed for the NOTE", x.grip(g, 0), 0);
        due("then the BAR", x.grip(g, 1), 1);
        FeltZither y = strings(24, 28, 31, 25, 26, 27);
        cut(y, new int[] {3, 4, 5});
        due("three classes are as much as a NOTE: the first GRIP", y.grip(write(y, C, 25), 0), 0);
        due("30 either way", y.trouble(0), 30);
    }

    private static void gripsByNumber() {
        FeltZither x = strings(24, 28, 31);
        cut(x, NO_FELTS, NO_FELTS, NO_FELTS);
        int g = chords(x, C);
        due("none is 0: the first of all", x.grip(g, 0), 0);
        x.string(25, false);
        x.felt(1, 3, true);
        x.felt(2, 3, true);
        due("then BARS alone, by number", x.grip(g, 0), 2);
        x.change(1, 2);
        due("by number, not by PLACE", x.grip(g, 0), 2);
        x.felt(1, 3, false);
        due("the last one alone, ahead of two", x.grip(g, 0), 4);
        FeltZither y = strings(24, 28, 31, 25);
        for (int b = 0; b < 12; b++) {
            y.blank();
        }
        y.felt(11, 3, true);
        due("the twelfth alone", y.grip(chords(y, C), 0), 1 << 11);
    }

    private static void gripsOfTwoByNumber() {
        FeltZither x = strings(24, 28, 31, 25, 26, 27);
        int g = chords(x, C, C);
        cut(x, new int[] {3}, new int[] {3, 4}, new int[] {5}, NO_FELTS, NO_FELTS, NO_FELTS, NO_FELTS, NO_FELTS,
                NO_FELTS, NO_FELTS, NO_FELTS, new int[] {4, 5});
        due("then two, by the lesser", x.grip(g, 0), 1 | 1 << 11);
        due("and it stays", x.grip(g, 1), 1 | 1 << 11);
        x.felt(0, 5, true);
        due("then the greater", x.grip(g, 0), 3);
        x.felt(0, 3, false);
        due("the next lesser", x.grip(g, 0), 1 | 1 << 1);
        x.felt(0, 5, false);
        due("the next lesser", x.grip(g, 1), 1 << 1 | 1 << 2);
        x.felt(1, 3, false);
        x.felt(10, 3, true);
        due("the last two", x.grip(g, 1), 1 << 10 | 1 << 11);
        due("none", x.trouble(g), 0);
    }

    /** Of ways with the same trouble, an early step decides ahead of a late one. */
    private static void firstRowOfGrips() {
        FeltZither x = chromatic(12);
        bars(x, C, C, F, F);
        int g = chords(x, C, F);
        due("first the first", x.grip(g, 0), 1);
        due("then the first", x.grip(g, 1), 4);
        due("LEAST TROUBLE", x.trouble(g), 4);
        FeltZither z = strings(24, 28, 31, 25);
        cut(z, NO_FELTS, new int[] {3}, new int[] {0, 3});
        int k = write(z, C, 25, C, -1, C, 25);
        due("10 and 10 for the NOTES' sake, 2 to press, 2 to lift", z.trouble(k), 24);
        due("nothing", z.grip(k, 0), 0);
        due("the BAR", z.grip(k, 1), 2);
        due("nothing", z.grip(k, 2), 0);
    }

    /** A bar that takes away one class that C# has, and one that it has not: pressed or not, 60. */
    private static void pressedWhereItIsLeast() {
        FeltZither x = strings(24, 28, 31, 25, 27);
        cut(x, new int[] {3, 4});
        int g = chords(x, C, 1);
        due("a BAR stays rather than be lifted", x.trouble(g), 60);
        due("pressed", x.grip(g, 0), 1);
        due("it stays", x.grip(g, 1), 1);
        int h = chords(x, 1, C);
        due("a BAR is pressed in the first STEP for nothing", x.trouble(h), 60);
        due("for the second one's sake", x.grip(h, 0), 1);
        due("it stays", x.grip(h, 1), 1);
        int k = write(x, 1, 25, 1, -1, C, -1);
        due("pressed in the second or the third STEP: the first row", x.trouble(k), 122);
        due("none for the NOTE's sake", x.grip(k, 0), 0);
        due("none still: it is ahead of the BAR", x.grip(k, 1), 0);
        due("pressed at last", x.grip(k, 2), 1);
        int m = write(x, C, -1, 1, -1, 1, 25);
        due("lifted in the second or the third STEP: the first row", x.trouble(m), 122);
        due("pressed", x.grip(m, 0), 1);
        due("lifted at once: none is ahead of the BAR", x.grip(m, 1), 0);
        due("none for the NOTE's sake", x.grip(m, 2), 0);
    }

    private static void lateStepsDecideWhereTroubleDoes() {
        FeltZither x = chromatic(12);
        bars(x, C, C);
        x.felt(0, 0, true);
        x.felt(1, 4, true);
        x.bar(C);
        x.felt(2, 7, true);
        int g = write(x, C, -1, C, 28);
        due("each BAR leaves one class out; 28 needs the first or the third", x.trouble(g), 20);
        due("the first from the beginning on", x.grip(g, 0), 1);
        int h = write(x, C, -1, C, 24);
        due("24 needs the second or the third: so it is pressed at once", x.grip(h, 0), 2);
        due("and stays", x.grip(h, 1), 2);
        int k = write(x, C, -1, C, 28, C, 24);
        due("28, then 24: the third alone has both", x.grip(k, 0), 4);
        due("and stays", x.grip(k, 2), 4);
        due("without any change", x.trouble(k), 30);
    }

    private static void gripsByTheKey() {
        FeltZither x = chromatic(12);
        bars(x, C, F);
        int g = write(x, C, 24, C, 28);
        x.key(g, 5);
        due("by its KEY: F with 29 and 33", x.trouble(g), 0);
        due("the BAR of F", x.grip(g, 0), 2);
        x.key(g, -6);
        due("by its KEY: both BARS leave one class for three, and no STRING has the NOTES", x.trouble(g), 2 * 70);
        due("both BARS", x.grip(g, 0), 3);
    }
}

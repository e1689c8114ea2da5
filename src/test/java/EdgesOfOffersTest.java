/** The edges that the document tells of OFFERS: SERVES, FEWEST, MOST and the BARS built of them. */
public final class EdgesOfOffersTest extends Bench {
    private static final int F_GREAT_SEVENTH = 77;

    public static void main(String[] args) {
        offersAre12Ever();
        oneOfThatChord();
        for (int many : new int[] {0, 1, 11, 12}) {
            setsOfOffers(many);
        }
        servesWithOneOrTwo();
        servesEachStep();
        servesAllSongs();
        for (int sort = 0; sort < 8; sort++) {
            servesJustItsChord(sort);
        }
        servesAlikeChords();
        servesWithSeveralAlike();
        servesAChordAgain();
        asStringsAreWhenAsked();
        fewestWithoutSongs();
        fewestOfAll();
        fewestIsNone();
        fewestOfSeveral();
        mostIsFor0To12();
        mostServesTheMostSongs();
        mostWithTheFewestOffers();
        mostOfSeveral();
        buildTellsHowMany();
        buildByNumber();
        buildAsStringsAre();
        buildLetsRowsGo();
        buildLeavesTheRest();
        CHECK.finish();
    }

    private static void offersAre12Ever() {
        FeltZither x = new FeltZither();
        for (int k = 0; k < 12; k++) {
            due("OFFERS are numbered from 0 on as they come", x.offer(95 - 8 * k), k);
        }
        due("OFFERS, 12 ever: a 13th", x.offer(0), FULL);
        due("OFFERS, 12 ever: there are", x.told(4), 12);
        due("offer: STATE ahead of FULL, of the first", x.offer(95), STATE);
        due("offer: STATE ahead of FULL, of the last", x.offer(7), STATE);
        due("offer: OUTSIDE ahead of FULL", x.offer(96), OUTSIDE);
        due("offer: OUTSIDE ahead of FULL, below", x.offer(-1), OUTSIDE);
        x.build(4095);
        x.build(0);
        due("OFFERS, 12 ever: none goes", x.offer(0), FULL);
        due("OFFERS, 12 ever: there are still", x.told(4), 12);
    }

    private static void oneOfThatChord() {
        FeltZither x = new FeltZither();
        due("a CHORD", x.offer(0), 0);
        due("STATE: there is one of that CHORD", x.offer(0), STATE);
        due("a CHORD of the same ROOT", x.offer(12), 1);
        due("the last CHORD", x.offer(95), 2);
        due("STATE: the last CHORD", x.offer(95), STATE);
        due("a CHORD of the same classes is another", x.offer(87), 3);
        due("there are", x.told(4), 4);
        x.build(0);
        due("STATE, though no BAR is made of it", x.offer(12), STATE);
    }

    private static void setsOfOffers(int many) {
        FeltZither x = new FeltZither();
        for (int k = 0; k < many; k++) {
            x.offer(k);
        }
        takesSetsOf("serves: OFFERS", many, x::serves);
        takesSetsOf("build: OFFERS", many, x::build);
        due("as many BARS as the full set has", x.told(2), many);
    }

    private static void servesWithOneOrTwo() {
        FeltZither x = chromatic(12);
        due("no OFFERS, no SONGS", x.serves(0), 0);
        chords(x, C);
        due("no OFFERS SERVE no SONG", x.serves(0), 0);
        offers(x, C_SEVENTH, F, C_GREAT_SEVENTH, C);
        due("the empty set", x.serves(0), 0);
        due("the BAR of one that does not GIVE it", x.serves(1), 0);
        due("BARS of two that do not", x.serves(3), 0);
        due("BARS of two, though neither does alone", x.serves(5), 1);
        due("BARS of two among more", x.serves(7), 1);
        due("the BAR of one", x.serves(8), 1);
        due("the BAR of one, whatever others there are", x.serves(15), 1);
        due("no BARS are needed", x.told(2), 0);
        due("without one it can't be played", x.playable(), 0);
    }

    private static void servesEachStep() {
        FeltZither x = chromatic(12);
        offers(x, C, F, G);
        chords(x, C, F, G);
        chords(x, C, C, F);
        chords(x, G);
        write(x, C, 0);
        due("each STEP's CHORD, the last, too", x.serves(3), 1 << 1 | 1 << 3);
        due("each STEP's CHORD, the first, too", x.serves(6), 1 << 2);
        due("all; NOTES do not count", x.serves(7), 15);
        x.key(2, -2);
        due("by its KEY", x.serves(3), 1 << 1 | 1 << 2 | 1 << 3);
        x.key(2, 5);
        due("by its KEY", x.serves(1), 1 << 2 | 1 << 3);
    }

    private static void servesAllSongs() {
        FeltZither x = chromatic(12);
        int[] all = new int[12];
        for (int k = 0; k < 12; k++) {
            all[k] = 7 * k + 3;
            x.offer(all[k]);
        }
        for (int g = 0; g < 8; g++) {
            fill(x, 0, 0, all[g + 4], -1);
            x.song(0, 0, 0, 1);
            due("SONGS as bits", x.serves(4095), (2 << g) - 1);
        }
        due("the last OFFER SERVES the last SONG", x.serves(1 << 11), 1 << 7);
        due("the fifth OFFER SERVES the first", x.serves(1 << 4), 1);
        due("the fourth none", x.serves(1 << 3), 0);
    }

    /** All chords of a sort as offers, a song of each sort, in all keys. */
    private static void servesJustItsChord(int sort) {
        FeltZither x = chromatic(12);
        for (int root = 0; root < 12; root++) {
            x.offer(12 * sort + root);
        }
        for (int other = 0; other < 8; other++) {
            fill(x, 0, 0, 12 * other + 6, -1);
            x.song(0, 0, 0, 1);
        }
        for (int key = -6; key <= 5; key++) {
            for (int g = 0; g < 8; g++) {
                x.key(g, key);
            }
            for (int root = 0; root < 12; root++) {
                int apart = Math.abs(root - 6 - key);
                boolean alike = sort == 7 ? apart % 4 == 0 : apart == 0;
                due("the BAR of one GIVES its CHORD, and no other: " + (12 * sort + root), x.serves(1 << root),
                        alike ? 1 << sort : 0);
            }
        }
    }

    private static void servesAlikeChords() {
        FeltZither x = chromatic(12);
        offers(x, 84, 64);
        chords(x, 84, 88, 92);
        chords(x, 64, 84);
        chords(x, 64, 65);
        chords(x, 0);
        due("one BAR for three CHORDS of the same classes", x.serves(1), 1);
        due("and with another for two SONGS", x.serves(3), 3);
        x.tune(8, 31);
        due("until a STRING has another TONE", x.serves(3), 0);
    }

    /** However many sets of one or two give it: a chord is given. */
    private static void servesWithSeveralAlike() {
        FeltZither x = chromatic(12);
        offers(x, 84, 88, 92, C, C_SEVENTH, C_GREAT_SEVENTH, A_MINOR_SEVENTH);
        chords(x, 84);
        chords(x, 88, 92);
        chords(x, C);
        for (int set = 0; set < 128; set++) {
            boolean round = (set & 7) != 0;
            boolean straight = (set & 8) != 0 || Integer.bitCount(set & 112) >= 2;
            due("BARS of one of them, or of two: set " + set, x.serves(set), (round ? 3 : 0) | (straight ? 4 : 0));
        }
        due("FEWEST", x.fewest(), 1 | 8);
    }

    /** A chord that comes in several steps is needed all the same. */
    private static void servesAChordAgain() {
        for (int chord : new int[] {0, 31, 32, 63, 64, 83, 84, 95}) {
            FeltZither x = chromatic(12);
            x.offer(1);
            x.offer(chord);
            chords(x, chord, chord);
            chords(x, chord, 1, chord, 1);
            due("each STEP's CHORD, though it comes twice: " + chord, x.serves(1), 0);
            due("the OFFER of it: " + chord, x.serves(2), 1);
            due("both: " + chord, x.serves(3), 3);
        }
    }

    private static void asStringsAreWhenAsked() {
        FeltZither x = new FeltZither();
        offers(x, C, C_SEVENTH);
        chords(x, C);
        due("no STRINGS", x.serves(3), 0);
        x.string(24, false);
        x.string(28, false);
        x.string(31, true);
        due("a class of the CHORD is FREE alone", x.serves(3), 0);
        x.string(31, false);
        due("as they are when it is asked", x.serves(3), 1);
        due("the BAR of a SEVENTH, where its last class is not", x.serves(2), 1);
        due("fewest then: the first", x.fewest(), 1);
        x.string(34, false);
        due("and where it is", x.serves(2), 0);
        x.tune(3, 30);
        due("tuned otherwise", x.serves(3), 0);
        due("fewest then", x.fewest(), NONE);
        due("most then", x.most(12), 0);
    }

    private static void fewestWithoutSongs() {
        FeltZither x = chromatic(12);
        due("no SONGS, no OFFERS: the empty set", x.fewest(), 0);
        offers(x, C, F);
        due("no SONGS: the empty set", x.fewest(), 0);
        FeltZither y = chromatic(12);
        chords(y, C);
        due("no OFFERS: NONE", y.fewest(), NONE);
    }

    private static void fewestOfAll() {
        FeltZither x = chromatic(12);
        for (int chord = 0; chord < 11; chord++) {
            x.offer(chord);
        }
        chords(x, 0, 1, 2, 3, 4, 5, 6, 7, 8, 9, 10, 11);
        due("none SERVES all: NONE", x.fewest(), NONE);
        x.offer(11);
        due("all twelve", x.fewest(), 4095);
        due("most of eleven: none", x.most(11), 0);
        due("most of twelve: all", x.most(12), 4095);
        FeltZither y = chromatic(12);
        for (int chord = 0; chord < 12; chord++) {
            y.offer(chord);
        }
        chords(y, 11);
        due("the last one", y.fewest(), 1 << 11);
    }

    private static void fewestIsNone() {
        FeltZither x = chromatic(12);
        offers(x, C, F);
        chords(x, C);
        chords(x, F);
        due("all SONGS", x.fewest(), 3);
        chords(x, C, G);
        due("all but one: NONE", x.fewest(), NONE);
        due("most all the same", x.most(12), 3);
        x.key(2, 5);
        due("by its KEY", x.fewest(), 3);
    }

    private static void fewestOfSeveral() {
        FeltZither x = chromatic(12);
        offers(x, C_SEVENTH, C_GREAT_SEVENTH, A_MINOR_SEVENTH);
        chords(x, C);
        due("of several the least as a number", x.fewest(), 3);
        x.offer(C);
        due("with the fewest, though another is less as a number", x.fewest(), 8);
        FeltZither y = chromatic(12);
        offers(y, F_GREAT_SEVENTH, C_SEVENTH, C_GREAT_SEVENTH, A_MINOR, A_MINOR_SEVENTH);
        chords(y, C, A_MINOR);
        due("those with 0, 1, 4 SERVE", y.serves(1 | 1 << 1 | 1 << 4), 1);
        due("and those with 1, 2, 3", y.serves(1 << 1 | 1 << 2 | 1 << 3), 1);
        due("the least as a number, not as a row", y.fewest(), 1 << 1 | 1 << 2 | 1 << 3);
        due("most: the least as a number, not as a row", y.most(3), 1 << 1 | 1 << 2 | 1 << 3);
        due("most for 12: the same", y.most(12), 1 << 1 | 1 << 2 | 1 << 3);
    }

    private static void mostIsFor0To12() {
        FeltZither x = chromatic(12);
        takesOnly("most: m is 0 .. 12, without OFFERS", 0, 12, OUTSIDE, x::most);
        offers(x, C, F);
        chords(x, C);
        chords(x, F);
        takesOnly("most: m is 0 .. 12", 0, 12, OUTSIDE, x::most);
        due("m 0: the empty set", x.most(0), 0);
        due("m 1", x.most(1), 1);
        due("m 2", x.most(2), 3);
        due("m above how many there are", x.most(3), 3);
        due("m 12", x.most(12), 3);
        FeltZither y = chromatic(12);
        offers(y, C, F);
        due("no SONGS: the empty set", y.most(12), 0);
    }

    private static void mostServesTheMostSongs() {
        FeltZither x = chromatic(12);
        offers(x, C, F, G, A_MINOR);
        chords(x, C, F);
        chords(x, G);
        chords(x, G, A_MINOR);
        chords(x, A_MINOR, G);
        chords(x, 1);
        due("m 1: G", x.most(1), 4);
        due("m 2: G and A minor", x.most(2), 12);
        due("m 3: no more by three, so the two", x.most(3), 12);
        due("m 4: four SONGS", x.most(4), 15);
        due("m 12", x.most(12), 15);
        due("none SERVES all", x.fewest(), NONE);
    }

    private static void mostWithTheFewestOffers() {
        FeltZither x = chromatic(12);
        offers(x, C_SEVENTH, C_GREAT_SEVENTH, F, C);
        chords(x, C);
        due("with the fewest OFFERS, not the least as a number", x.most(2), 8);
        due("whatever m is", x.most(12), 8);
        chords(x, F);
        due("two SONGS by two", x.most(2), 12);
        due("one SONG by one: the least as a number", x.most(1), 4);
    }

    private static void mostOfSeveral() {
        FeltZither x = chromatic(12);
        for (int chord = 0; chord < 12; chord++) {
            x.offer(chord);
        }
        for (int g = 0; g < 8; g++) {
            chords(x, 11 - g);
        }
        int[] wants = {0, 1 << 4, 3 << 4, 7 << 4, 15 << 4, 31 << 4, 63 << 4, 127 << 4, 255 << 4, 255 << 4};
        for (int m = 0; m < wants.length; m++) {
            due("of several the least as a number: m " + m, x.most(m), wants[m]);
        }
        due("m 12", x.most(12), 255 << 4);
    }

    private static void buildTellsHowMany() {
        FeltZither x = chromatic(12);
        for (int k = 0; k < 12; k++) {
            x.offer(8 * k);
        }
        due("how many: none", x.build(0), 0);
        due("how many: one", x.build(1 << 11), 1);
        due("how many: all", x.build(4095), 12);
        due("how many there are", x.told(2), 12);
        due("how many: all again", x.build(4095), 12);
        due("all BARS go", x.build(0), 0);
        due("none is left", x.told(2), 0);
        due("so no HOLD", x.hold(0), NONE);
    }

    private static void buildByNumber() {
        FeltZither x = chromatic(12);
        offers(x, G, C_SEVENTH, C, F);
        x.blank();
        x.blank();
        x.blank();
        x.change(0, 2);
        due("three of four", x.build(13), 3);
        due("by number: the first", x.ofBar(0, 1), G);
        due("by number: the second", x.ofBar(1, 1), C);
        due("by number: the third", x.ofBar(2, 1), F);
        for (int b = 0; b < 3; b++) {
            due("a PLACE is at first its number", x.ofBar(b, 5), b);
            due("its kind", x.ofBar(b, 0), 1);
            due("FELTS", x.ofBar(b, 2), 9);
            due("whole ones", x.ofBar(b, 3), 0);
        }
        x.wear(0, 0, true);
        x.felt(1, 0, true);
        x.change(0, 1);
        x.build(2);
        due("a SEVENTH's kind", x.ofBar(0, 0), 2);
        due("all whole", x.ofBar(0, 3), 0);
        due("as many as it should have", x.ofBar(0, 2), 8);
        due("its PLACE", x.ofBar(0, 5), 0);
        due("the others are UNKNOWN", x.ofBar(1, 0), UNKNOWN);
    }

    private static void buildAsStringsAre() {
        FeltZither x = new FeltZither();
        offers(x, C);
        x.build(1);
        due("no STRINGS, no FELTS", x.ofBar(0, 2), 0);
        x.string(25, false);
        x.string(25, true);
        due("one that comes later gets none", x.ofBar(0, 2), 0);
        x.build(1);
        due("but by a BAR that is built then", x.has(0, 0), 2);
        due("a FREE one has none", x.has(0, 1), 0);
    }

    private static void buildLetsRowsGo() {
        FeltZither x = chromatic(1);
        offers(x, C);
        x.blank();
        hear(x, 1, 0);
        due("not EXPLAINED", x.worn(), NONE);
        due("refused: a ROW stays", x.build(2), OUTSIDE);
        due("still there", x.told(5), 1);
        due("no BARS come", x.build(0), 0);
        due("ROWS HEARD go, too", x.told(5), 0);
        due("nothing is left to EXPLAIN", x.worn(), 0);
        due("numbered by how many there are ahead", hear(x, 0, 1), 0);
    }

    private static void buildLeavesTheRest() {
        FeltZither x = chromatic(12);
        offers(x, C, F);
        chords(x, C);
        x.key(0, 5);
        x.blank();
        x.name(0);
        x.put(0, 0, 0);
        x.build(3);
        due("STRINGS stay", x.told(0), 12);
        due("SONGS stay", x.told(3), 1);
        due("their KEYS stay", x.misses(0, 4), 5);
        due("OFFERS stay", x.told(4), 2);
        due("TRACE stays", x.trace(), 4);
        due("the FAULT stays", x.fault(), 1);
        due("SHEETS stay", x.at(3, 1, 2), -1);
        due("the BAR is what is pressed", x.hold(F), 2);
    }
}

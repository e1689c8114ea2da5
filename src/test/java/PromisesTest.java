/** Each promise by itself: what is ordinary, the edges that the document names, and wrong inputs. */
public final class PromisesTest extends Bench {
    public static void main(String[] args) {
        p01NewObject();
        p02string();
        p03tune();
        p04bar();
        p05blank();
        p06felt();
        p07wear();
        p08ofString();
        p09ofBar();
        p10has();
        p11sounds();
        p12classes();
        p13chord();
        p14gives();
        p15lack();
        p16hold();
        p17holds();
        p18strum();
        p19song();
        p20step();
        p21key();
        p22misses();
        p23bestKey();
        p24playable();
        p25offer();
        p26serves();
        p27fewest();
        p28most();
        p29build();
        p30change();
        p31way();
        p32least();
        p33arrange();
        p34trouble();
        p35grip();
        p36heard();
        p37worn();
        p38sure();
        p39unhear();
        p40otherwise();
        p41best();
        p42sheet();
        p43lose();
        p44put();
        p45at();
        p46tell();
        p47name();
        p48as();
        p49trace();
        p50fault();
        p51told();
        CHECK.finish();
    }

    private static void due(int promise, String what, long got, long want) {
        CHECK.due("promise " + promise + ": " + what, got, want);
    }

    private static void p01NewObject() {
        FeltZither x = new FeltZither();
        for (int what = 0; what <= 6; what++) {
            due(1, "told " + what, x.told(what), 0);
        }
        for (int k = 0; k < 4; k++) {
            due(1, "nothing to lose", x.lose(k), 0);
        }
        due(1, "fault", x.fault(), 0);
        due(1, "trace", x.trace(), 0);
        x.string(1, false);
        due(1, "objects have nothing in common", new FeltZither().told(0), 0);
    }

    private static void p02string() {
        FeltZither x = new FeltZither();
        due(2, "below", x.string(-1, false), OUTSIDE);
        due(2, "above", x.string(61, true), OUTSIDE);
        due(2, "far below", x.string(MIN, true), OUTSIDE);
        due(2, "far above", x.string(MAX, true), OUTSIDE);
        due(2, "lowest", x.string(0, false), 0);
        due(2, "highest", x.string(60, true), 1);
        for (int s = 2; s < 36; s++) {
            due(2, "next", x.string(30, false), s);
        }
        due(2, "one too many", x.string(30, false), FULL);
        due(2, "outside ahead of full", x.string(61, false), OUTSIDE);
        due(2, "as many as before", x.told(0), 36);
        due(2, "tone", x.ofString(1, 0), 60);
        due(2, "free", x.ofString(1, 1), 1);
        due(2, "the last one", x.ofString(35, 0), 30);
    }

    private static void p03tune() {
        FeltZither x = chromatic(3);
        x.string(40, true);
        x.bar(C);
        due(3, "what it was", x.tune(1, 36), 25);
        due(3, "what it is", x.ofString(1, 0), 36);
        due(3, "its class", x.ofString(1, 2), 0);
        due(3, "felts stay", x.has(0, 1), 2);
        due(3, "a felt does not come", x.tune(0, 25), 24);
        due(3, "none there", x.has(0, 0), 0);
        due(3, "classes are told by tones of now", x.classes(0), 1 | 1 << 1 | 1 << 2);
        due(3, "a free one", x.tune(3, 0), 40);
        due(3, "to the highest", x.tune(3, 60), 0);
        due(3, "to what it is", x.tune(3, 60), 60);
        due(3, "none such", x.tune(4, 10), UNKNOWN);
        due(3, "none such below", x.tune(-1, 10), UNKNOWN);
        due(3, "unknown ahead of outside", x.tune(4, 61), UNKNOWN);
        due(3, "above", x.tune(0, 61), OUTSIDE);
        due(3, "below", x.tune(0, -1), OUTSIDE);
        due(3, "nothing changed", x.ofString(0, 0), 25);
    }

    private static void p04bar() {
        FeltZither x = chromatic(12);
        x.string(25, true);
        due(4, "below", x.bar(-1), OUTSIDE);
        due(4, "above", x.bar(96), OUTSIDE);
        due(4, "first", x.bar(C), 0);
        due(4, "second", x.bar(95), 1);
        int has = 0;
        for (int s = 0; s < 12; s++) {
            has |= x.has(0, s) == 2 ? 1 << s : 0;
        }
        due(4, "felts where classes are not the chord's", has, 4095 & ~(1 | 1 << 4 | 1 << 7));
        due(4, "none on free ones", x.has(0, 12), 0);
        x.string(25, false);
        due(4, "none on those that come later", x.has(0, 13), 0);
        x.bar(C);
        due(4, "but from a bar that comes later still", x.has(2, 13), 2);
        for (int b = 3; b < 12; b++) {
            due(4, "next", x.bar(b), b);
        }
        due(4, "one too many", x.bar(C), FULL);
        due(4, "outside ahead of full", x.bar(96), OUTSIDE);
        due(4, "place", x.ofBar(11, 5), 11);
    }

    private static void p05blank() {
        FeltZither x = chromatic(5);
        for (int b = 0; b < 12; b++) {
            due(5, "next", x.blank(), b);
            due(5, "no felts", x.ofBar(b, 2), 0);
            due(5, "kind", x.ofBar(b, 0), 0);
        }
        due(5, "one too many", x.blank(), FULL);
        due(5, "as many as before", x.told(2), 12);
    }

    private static void p06felt() {
        FeltZither x = chromatic(2);
        x.string(30, true);
        x.blank();
        due(6, "none to take", x.felt(0, 0, false), 0);
        due(6, "put", x.felt(0, 0, true), 1);
        due(6, "whole", x.has(0, 0), 2);
        due(6, "there already", x.felt(0, 0, true), 0);
        x.wear(0, 0, true);
        due(6, "there, worn", x.felt(0, 0, true), 0);
        due(6, "stays worn", x.has(0, 0), 1);
        due(6, "taken", x.felt(0, 0, false), 1);
        due(6, "gone", x.has(0, 0), 0);
        due(6, "no worn one is left", x.ofBar(0, 3), 0);
        due(6, "put anew", x.felt(0, 0, true), 1);
        due(6, "whole again", x.has(0, 0), 2);
        due(6, "free", x.felt(0, 2, true), STATE);
        due(6, "free, taken", x.felt(0, 2, false), STATE);
        due(6, "no such bar", x.felt(1, 0, true), UNKNOWN);
        due(6, "no such bar, free", x.felt(-1, 2, true), UNKNOWN);
        due(6, "no such string", x.felt(0, 3, true), UNKNOWN);
        due(6, "no such string below", x.felt(0, -1, true), UNKNOWN);
        due(6, "only where it was put", x.has(0, 1), 0);
    }

    private static void p07wear() {
        FeltZither x = chromatic(3);
        x.string(30, true);
        x.blank();
        x.felt(0, 1, true);
        due(7, "whole already", x.wear(0, 1, false), 0);
        due(7, "worn", x.wear(0, 1, true), 1);
        due(7, "worn already", x.wear(0, 1, true), 0);
        due(7, "it sounds", x.sounds(1, 1), 1);
        due(7, "whole", x.wear(0, 1, false), 1);
        due(7, "it does not", x.sounds(1, 1), 0);
        due(7, "no felt", x.wear(0, 0, true), UNKNOWN);
        due(7, "no felt to be whole", x.wear(0, 0, false), UNKNOWN);
        due(7, "free", x.wear(0, 3, true), UNKNOWN);
        due(7, "no such bar", x.wear(1, 1, true), UNKNOWN);
        due(7, "no such string", x.wear(0, 4, true), UNKNOWN);
        due(7, "no such bar below", x.wear(MIN, 1, true), UNKNOWN);
        due(7, "no such string below", x.wear(0, -1, true), UNKNOWN);
    }

    private static void p08ofString() {
        FeltZither x = new FeltZither();
        x.string(59, false);
        x.string(12, true);
        x.blank();
        x.blank();
        x.blank();
        x.felt(0, 0, true);
        x.felt(1, 0, true);
        x.felt(2, 0, true);
        x.wear(1, 0, true);
        due(8, "tone", x.ofString(0, 0), 59);
        due(8, "not free", x.ofString(0, 1), 0);
        due(8, "free", x.ofString(1, 1), 1);
        due(8, "class", x.ofString(0, 2), 11);
        due(8, "class of 12", x.ofString(1, 2), 0);
        due(8, "whole felts", x.ofString(0, 3), 2);
        due(8, "none on a free one", x.ofString(1, 3), 0);
        due(8, "what above", x.ofString(0, 4), OUTSIDE);
        due(8, "what below", x.ofString(0, -1), OUTSIDE);
        due(8, "none such", x.ofString(2, 0), UNKNOWN);
        due(8, "unknown ahead of outside", x.ofString(-1, 4), UNKNOWN);
    }

    private static void p09ofBar() {
        FeltZither x = chromatic(12);
        x.blank();
        x.bar(A_MINOR);
        x.bar(C_SEVENTH);
        x.bar(A_MINOR_SEVENTH);
        x.bar(C_GREAT_SEVENTH);
        x.bar(95);
        int[] kinds = {0, 1, 2, 2, 2, 1};
        int[] numbers = {NONE, A_MINOR, C_SEVENTH, A_MINOR_SEVENTH, C_GREAT_SEVENTH, 95};
        int[] felts = {0, 9, 8, 8, 8, 9};
        for (int b = 0; b < 6; b++) {
            due(9, "kind", x.ofBar(b, 0), kinds[b]);
            due(9, "chord", x.ofBar(b, 1), numbers[b]);
            due(9, "felts", x.ofBar(b, 2), felts[b]);
            due(9, "worn ones", x.ofBar(b, 3), 0);
            due(9, "classes", x.ofBar(b, 4), b == 0 ? 4095 : x.chord(numbers[b]));
            due(9, "place", x.ofBar(b, 5), b);
        }
        x.wear(1, 1, true);
        due(9, "felts, worn ones too", x.ofBar(1, 2), 9);
        due(9, "one worn", x.ofBar(1, 3), 1);
        due(9, "class that sounds by it", x.ofBar(1, 4), x.chord(A_MINOR) | 2);
        x.change(1, 4);
        due(9, "another place", x.ofBar(1, 5), 4);
        due(9, "what above", x.ofBar(0, 6), OUTSIDE);
        due(9, "what below", x.ofBar(0, -1), OUTSIDE);
        due(9, "none such", x.ofBar(6, 0), UNKNOWN);
        due(9, "unknown ahead of outside", x.ofBar(-1, 9), UNKNOWN);
    }

    private static void p10has() {
        FeltZither x = chromatic(2);
        x.bar(C);
        due(10, "none", x.has(0, 0), 0);
        due(10, "whole", x.has(0, 1), 2);
        x.wear(0, 1, true);
        due(10, "worn", x.has(0, 1), 1);
        due(10, "no bar", x.has(1, 1), UNKNOWN);
        due(10, "no bar below", x.has(-1, 1), UNKNOWN);
        due(10, "no string", x.has(0, 2), UNKNOWN);
        due(10, "no string below", x.has(0, -1), UNKNOWN);
    }

    private static void p11sounds() {
        FeltZither x = chromatic(3);
        x.string(25, true);
        x.bar(C);
        x.blank();
        x.felt(1, 0, true);
        due(11, "nothing pressed", x.sounds(0, 1), 1);
        due(11, "hushed", x.sounds(1, 1), 0);
        due(11, "by the other one only", x.sounds(2, 1), 1);
        due(11, "by one of two", x.sounds(3, 0), 0);
        due(11, "a free one", x.sounds(3, 3), 1);
        x.wear(0, 1, true);
        due(11, "worn", x.sounds(3, 1), 1);
        due(11, "no string", x.sounds(0, 4), UNKNOWN);
        due(11, "unknown ahead of outside", x.sounds(4, -1), UNKNOWN);
        due(11, "a bit too high", x.sounds(4, 0), OUTSIDE);
        due(11, "the sign bit", x.sounds(MIN, 0), OUTSIDE);
        due(11, "all bits", x.sounds(-1, 0), OUTSIDE);
    }

    private static void p12classes() {
        FeltZither x = new FeltZither();
        due(12, "no strings", x.classes(0), 0);
        due(12, "no bars", x.classes(1), OUTSIDE);
        x.string(0, false);
        x.string(12, false);
        x.string(35, false);
        x.string(28, true);
        due(12, "all, but free ones", x.classes(0), 1 | 1 << 11);
        x.blank();
        x.blank();
        x.felt(0, 0, true);
        due(12, "one of a class is left", x.classes(1), 1 | 1 << 11);
        x.felt(1, 1, true);
        due(12, "none of the class is left", x.classes(3), 1 << 11);
        due(12, "a bit too high", x.classes(4), OUTSIDE);
        due(12, "the sign bit", x.classes(MIN), OUTSIDE);
    }

    private static void p13chord() {
        FeltZither x = new FeltZither();
        int[][] sorts = {
            {0, 4, 7}, {0, 3, 7}, {0, 4, 7, 10}, {0, 3, 7, 10}, {0, 3, 6}, {0, 5, 7}, {0, 4, 7, 11}, {0, 4, 8}
        };
        for (int chord = 0; chord < 96; chord++) {
            int want = 0;
            for (int above : sorts[chord / 12]) {
                want |= 1 << (above + chord) % 12;
            }
            due(13, "chord " + chord, x.chord(chord), want);
        }
        due(13, "below", x.chord(-1), OUTSIDE);
        due(13, "above", x.chord(96), OUTSIDE);
        due(13, "far below", x.chord(MIN), OUTSIDE);
        due(13, "far above", x.chord(MAX), OUTSIDE);
    }

    private static void p14gives() {
        FeltZither x = chromatic(12);
        x.bar(C_SEVENTH);
        x.bar(C_GREAT_SEVENTH);
        due(14, "alone", x.gives(1, C_SEVENTH), 1);
        due(14, "too many classes", x.gives(1, C), 0);
        due(14, "two", x.gives(3, C), 1);
        due(14, "nothing pressed", x.gives(0, C), 0);
        x.felt(0, 0, true);
        due(14, "too few classes", x.gives(3, C), 0);
        due(14, "a bit too high", x.gives(4, C), OUTSIDE);
        due(14, "chord below", x.gives(1, -1), OUTSIDE);
        due(14, "chord above", x.gives(1, 96), OUTSIDE);
        FeltZither y = new FeltZither();
        y.string(24, false);
        y.string(28, false);
        y.string(31, false);
        y.string(26, true);
        due(14, "free ones do not count; no bar need be pressed", y.gives(0, C), 1);
        due(14, "but that is no hold", y.hold(C), NONE);
    }

    private static void p15lack() {
        FeltZither x = new FeltZither();
        due(15, "no strings", x.lack(C), 1 | 1 << 4 | 1 << 7);
        x.string(24, false);
        x.string(28, true);
        due(15, "a free one does not count", x.lack(C), 1 << 4 | 1 << 7);
        x.string(40, false);
        x.string(43, false);
        due(15, "none", x.lack(C), 0);
        x.bar(F);
        due(15, "bars do not count", x.lack(C), 0);
        due(15, "the seventh", x.lack(C_SEVENTH), 1 << 10);
        due(15, "below", x.lack(-1), OUTSIDE);
        due(15, "above", x.lack(96), OUTSIDE);
    }

    private static void p16hold() {
        FeltZither x = chromatic(12);
        due(16, "no bars", x.hold(C), NONE);
        x.bar(C_SEVENTH);
        x.bar(C_GREAT_SEVENTH);
        x.bar(A_MINOR_SEVENTH);
        due(16, "the first two, by the lesser, then the greater", x.hold(C), 3);
        x.wear(0, 2, true);
        due(16, "two of which one has a worn felt", x.hold(C), 3);
        x.wear(1, 2, true);
        due(16, "the next two", x.hold(C), 5);
        x.bar(C);
        due(16, "one comes ahead of two", x.hold(C), 8);
        x.bar(C);
        due(16, "the first of two alike", x.hold(C), 8);
        due(16, "none", x.hold(F), NONE);
        due(16, "below", x.hold(-1), OUTSIDE);
        due(16, "above", x.hold(96), OUTSIDE);
        FeltZither y = chromatic(12);
        y.bar(12);
        y.bar(A_MINOR_SEVENTH);
        y.bar(C_GREAT_SEVENTH);
        y.bar(C_SEVENTH);
        due(16, "the lesser number counts first", y.hold(C), 6);
    }

    private static void p17holds() {
        FeltZither x = chromatic(12);
        due(17, "none at all", x.holds(0), 96);
        x.bar(C_SEVENTH);
        x.bar(C_GREAT_SEVENTH);
        x.bar(84);
        due(17, "of one: 24, 72, and 84, 88, 92, which are alike", x.holds(1), 5);
        due(17, "of two: 0", x.holds(2), 1);
        due(17, "of none", x.holds(0), 90);
        due(17, "below", x.holds(-1), OUTSIDE);
        due(17, "above", x.holds(3), OUTSIDE);
    }

    private static void p18strum() {
        FeltZither x = new FeltZither();
        for (int what = 0; what <= 3; what++) {
            due(18, "of none", x.strum(0, what), what == 1 || what == 2 ? NONE : 0);
        }
        x.string(40, false);
        due(18, "step of one", x.strum(0, 3), 0);
        due(18, "lowest of one", x.strum(0, 1), 40);
        due(18, "highest of one", x.strum(0, 2), 40);
        x.string(0, true);
        x.string(60, false);
        x.string(40, false);
        x.string(27, false);
        due(18, "how many, with two of one tone", x.strum(0, 0), 5);
        due(18, "lowest", x.strum(0, 1), 0);
        due(18, "highest", x.strum(0, 2), 60);
        due(18, "step", x.strum(0, 3), 27);
        x.blank();
        x.felt(0, 0, true);
        x.felt(0, 2, true);
        x.felt(0, 4, true);
        due(18, "how many are left", x.strum(1, 0), 2);
        due(18, "a free one is", x.strum(1, 1), 0);
        due(18, "highest left", x.strum(1, 2), 40);
        due(18, "step left", x.strum(1, 3), 40);
        due(18, "what above", x.strum(0, 4), OUTSIDE);
        due(18, "what below", x.strum(0, -1), OUTSIDE);
        due(18, "a bit too high", x.strum(2, 0), OUTSIDE);
        due(18, "the sign bit", x.strum(MIN, 0), OUTSIDE);
        FeltZither y = new FeltZither();
        y.string(30, false);
        y.blank();
        y.felt(0, 0, true);
        due(18, "none is left", y.strum(1, 2), NONE);
        due(18, "none is left, lowest", y.strum(1, 1), NONE);
    }

    private static void p19song() {
        FeltZither x = new FeltZither();
        due(19, "nothing there", x.song(0, 0, 0, 1), NULL);
        due(19, "its fault", x.fault(), 1);
        x.sheet(0, 1, 64);
        due(19, "no such sheet", x.song(4, 1, 0, 1), UNKNOWN);
        due(19, "no fault", x.fault(), 0);
        due(19, "no such sheet, no such lane", x.song(-1, 3, 0, 1), UNKNOWN);
        due(19, "lane above", x.song(0, 3, 0, 1), OUTSIDE);
        due(19, "lane below, nothing there", x.song(1, -1, 0, 1), OUTSIDE);
        due(19, "another lane", x.song(0, 0, 0, -1), CAST);
        due(19, "nothing is no cast, and comes ahead of size", x.song(1, 0, 0, -1), NULL);
        due(19, "size ahead of index", x.song(0, 1, -1, -1), SIZE);
        due(19, "least size", x.song(0, 1, 0, MIN), SIZE);
        due(19, "size's fault", x.fault(), 4);
        due(19, "no place", x.song(0, 1, -1, 1), INDEX);
        due(19, "no place for none", x.song(0, 1, 65, 0), INDEX);
        due(19, "none from the end on", x.song(0, 1, 64, 0), OUTSIDE);
        due(19, "none", x.song(0, 1, 0, 0), OUTSIDE);
        due(19, "half a step", x.song(0, 1, 63, 1), INDEX);
        due(19, "far too many", x.song(0, 1, 0, MAX), INDEX);
        due(19, "far off", x.song(0, 1, MAX, 1), INDEX);
        due(19, "33", x.song(0, 1, 0, 33), INDEX);
        due(19, "25", x.song(0, 1, 0, 25), OUTSIDE);
        due(19, "no fault behind index", x.fault(), 0);
        due(19, "24, from 16 on", x.song(0, 1, 16, 24), 0);
        due(19, "their number", x.misses(0, 3), 24);
        x.put(0, 62, 95);
        x.put(0, 63, 60);
        due(19, "the last two cells", x.song(0, 1, 62, 1), 1);
        due(19, "chord", x.step(1, 0, 0), 95);
        due(19, "note", x.step(1, 0, 1), 60);
        x.put(0, 63, -1);
        due(19, "a song is a copy", x.step(1, 0, 1), 60);
        due(19, "no note", x.song(0, 1, 62, 1), 2);
        due(19, "told", x.step(2, 0, 1), NONE);
        p19wrongCells(x);
        for (int g = 3; g < 8; g++) {
            due(19, "next", x.song(0, 1, 0, 1), g);
        }
        due(19, "one too many", x.song(0, 1, 0, 1), FULL);
        due(19, "outside ahead of full", x.song(0, 1, 0, 0), OUTSIDE);
        due(19, "index ahead of full", x.song(0, 1, 65, 1), INDEX);
        due(19, "as many as before", x.told(3), 8);
    }

    private static void p19wrongCells(FeltZither x) {
        int[][] wrong = {{96, 0}, {-1, 0}, {0, -2}, {0, 61}};
        for (int[] cells : wrong) {
            x.put(0, 62, cells[0]);
            x.put(0, 63, cells[1]);
            due(19, "a wrong cell", x.song(0, 1, 62, 1), OUTSIDE);
            due(19, "a wrong cell, last of two steps", x.song(0, 1, 60, 2), OUTSIDE);
        }
    }

    private static void p20step() {
        FeltZither x = chromatic(12);
        x.bar(C);
        int g = write(x, C, 28, F, 29, A_MINOR, -1, C, 25);
        due(20, "chord", x.step(g, 1, 0), F);
        due(20, "note", x.step(g, 1, 1), 29);
        due(20, "no note", x.step(g, 2, 1), NONE);
        due(20, "held", x.step(g, 0, 2), 0);
        due(20, "not held", x.step(g, 1, 2), 1);
        due(20, "the note sounds", x.step(g, 0, 3), 0);
        due(20, "with no bar pressed, if there is no hold", x.step(g, 1, 3), 0);
        due(20, "no note does not miss", x.step(g, 2, 3), 0);
        due(20, "hushed by the hold", x.step(g, 3, 3), 1);
        x.string(25, true);
        due(20, "a free one sounds", x.step(g, 3, 3), 0);
        x.key(g, -6);
        due(20, "chord by the key", x.step(g, 1, 0), 11);
        due(20, "its sort stays", x.step(g, 2, 0), 15);
        due(20, "note by the key", x.step(g, 1, 1), 23);
        due(20, "none stays none", x.step(g, 2, 1), NONE);
        int ends = write(x, C, 0, C, 60, C, 5);
        x.key(ends, -6);
        due(20, "a note below 0", x.step(ends, 0, 1), -6);
        due(20, "misses", x.step(ends, 0, 3), 1);
        due(20, "a note that becomes -1 is one", x.step(ends, 2, 1), -1);
        due(20, "and misses", x.step(ends, 2, 3), 1);
        x.key(ends, 5);
        due(20, "a note above 60", x.step(ends, 1, 1), 65);
        due(20, "misses, too", x.step(ends, 1, 3), 1);
        due(20, "what above", x.step(g, 0, 4), OUTSIDE);
        due(20, "what below", x.step(g, 0, -1), OUTSIDE);
        due(20, "no such step", x.step(g, 4, 0), UNKNOWN);
        due(20, "no such step below", x.step(g, -1, 0), UNKNOWN);
        due(20, "no such song", x.step(2, 0, 0), UNKNOWN);
        due(20, "unknown ahead of outside", x.step(-1, 0, 9), UNKNOWN);
    }

    private static void p21key() {
        FeltZither x = new FeltZither();
        chords(x, C, 11);
        due(21, "0 at first", x.key(0, 5), 0);
        due(21, "what it was", x.key(0, -6), 5);
        due(21, "above", x.key(0, 6), OUTSIDE);
        due(21, "below", x.key(0, -7), OUTSIDE);
        due(21, "far below", x.key(0, MIN), OUTSIDE);
        due(21, "far above", x.key(0, MAX), OUTSIDE);
        due(21, "nothing changed", x.key(0, 1), -6);
        due(21, "roots go round", x.step(0, 1, 0), 0);
        due(21, "no such song", x.key(1, 0), UNKNOWN);
        due(21, "unknown ahead of outside", x.key(-1, 9), UNKNOWN);
    }

    private static void p22misses() {
        FeltZither x = chromatic(12);
        x.bar(C);
        int g = write(x, C, 28, F, 29, F, 40, C, 25, C, -1);
        int[] wants = {2, 2, 4, 5, 0};
        for (int what = 0; what < 5; what++) {
            due(22, "misses " + what, x.misses(g, what), wants[what]);
        }
        x.key(g, -5);
        due(22, "by the key: chords", x.misses(g, 0), 3);
        due(22, "by the key: notes 23, 35 and 20", x.misses(g, 1), 3);
        due(22, "the key", x.misses(g, 4), -5);
        due(22, "what above", x.misses(g, 5), OUTSIDE);
        due(22, "what below", x.misses(g, -1), OUTSIDE);
        due(22, "no such song", x.misses(1, 0), UNKNOWN);
        due(22, "unknown ahead of outside", x.misses(-1, 5), UNKNOWN);
    }

    private static void p23bestKey() {
        FeltZither x = chromatic(12);
        due(23, "no songs", x.bestKey(0), 99);
        int g = chords(x, C);
        due(23, "all alike: 0", x.bestKey(g), 0);
        x.bar(2);
        due(23, "the only one", x.bestKey(g), 2);
        x.bar(10);
        due(23, "of two as near the one above", x.bestKey(g), 2);
        x.bar(11);
        due(23, "nearer", x.bestKey(g), -1);
        x.key(g, 3);
        due(23, "by the song as it was written", x.bestKey(g), -1);
        due(23, "the key stays", x.misses(g, 4), 3);
        FeltZither y = chromatic(12);
        y.bar(6);
        due(23, "-6", y.bestKey(chords(y, C)), -6);
        y.bar(5);
        due(23, "5", y.bestKey(chords(y, C)), 5);
        FeltZither z = chromatic(12);
        z.bar(1);
        z.bar(2);
        due(23, "notes count as chords do", z.bestKey(write(z, C, 24, C, 36)), 1);
        due(23, "a note that only -3 has", z.bestKey(write(z, A_MINOR, 38, A_MINOR, 38)), -3);
        due(23, "none such below", z.bestKey(-1), 99);
        due(23, "none such", z.bestKey(2), 99);
    }

    private static void p24playable() {
        FeltZither x = chromatic(12);
        due(24, "no songs", x.playable(), 0);
        x.bar(C);
        x.bar(F);
        write(x, C, 24, F, 29);
        chords(x, C, G);
        write(x, C, 25);
        write(x, F, -1);
        due(24, "0 and 3", x.playable(), 9);
        x.key(3, 1);
        due(24, "by the key", x.playable(), 1);
        x.key(2, 0);
        x.tune(1, 28);
        x.tune(4, 25);
        due(24, "with other tones", x.playable(), 0);
    }

    private static void p25offer() {
        FeltZither x = new FeltZither();
        due(25, "below", x.offer(-1), OUTSIDE);
        due(25, "above", x.offer(96), OUTSIDE);
        for (int k = 0; k < 12; k++) {
            due(25, "next", x.offer(95 - k), k);
        }
        due(25, "one more", x.offer(0), FULL);
        due(25, "state ahead of full", x.offer(95), STATE);
        due(25, "outside ahead of full", x.offer(96), OUTSIDE);
        due(25, "as many as before", x.told(4), 12);
        FeltZither y = new FeltZither();
        y.offer(84);
        due(25, "again", y.offer(84), STATE);
        due(25, "the same classes, but another chord", y.offer(88), 1);
    }

    private static void p26serves() {
        FeltZither x = chromatic(12);
        due(26, "no offers", x.serves(1), OUTSIDE);
        due(26, "none of none", x.serves(0), 0);
        x.offer(C_SEVENTH);
        x.offer(C_GREAT_SEVENTH);
        x.offer(F);
        chords(x, C);
        chords(x, F);
        chords(x, C, F);
        due(26, "one", x.serves(1), 0);
        due(26, "two together", x.serves(3), 1);
        due(26, "one alone", x.serves(4), 2);
        due(26, "all", x.serves(7), 7);
        x.key(1, 2);
        due(26, "by the key", x.serves(7), 5);
        x.key(1, 0);
        due(26, "by the key as it was", x.serves(7), 7);
        x.key(1, 2);
        due(26, "bars there are do not count", x.bar(G), 0);
        due(26, "still", x.serves(7), 5);
        x.tune(0, 25);
        due(26, "by strings as they are", x.serves(7), 0);
        due(26, "a bit too high", x.serves(8), OUTSIDE);
        due(26, "the sign bit", x.serves(MIN), OUTSIDE);
        FeltZither y = chromatic(12);
        y.offer(C_SEVENTH);
        y.offer(C_GREAT_SEVENTH);
        y.offer(A_MINOR_SEVENTH);
        chords(y, 95);
        due(26, "no two of them", y.serves(7), 0);
        p26highChords();
    }

    private static void p26highChords() {
        FeltZither x = chromatic(12);
        x.offer(63);
        x.offer(64);
        x.offer(95);
        chords(x, 63);
        chords(x, 64);
        chords(x, 95, 63);
        chords(x, 91, 87);
        int[] wants = {0, 1, 2, 3, 8, 13, 10, 15};
        for (int set = 0; set < 8; set++) {
            due(26, "high chords by " + set, x.serves(set), wants[set]);
        }
        x.key(2, 1);
        due(26, "another key: 84 is not 95", x.serves(7), 11);
        x.key(3, 1);
        due(26, "nor 80 and 88", x.serves(7), 3);
        x.key(2, 0);
        x.key(3, 4);
        due(26, "turned round by 4 they are what they were", x.serves(7), 15);
        x.tune(9, 34);
        due(26, "no string has a class of 64 now", x.serves(7), 13);
    }

    private static void p27fewest() {
        FeltZither x = chromatic(12);
        due(27, "no songs", x.fewest(), 0);
        x.offer(G);
        due(27, "no songs, an offer", x.fewest(), 0);
        x.offer(C_SEVENTH);
        x.offer(C_GREAT_SEVENTH);
        x.offer(F);
        chords(x, C, F);
        due(27, "two and one", x.fewest(), 14);
        x.offer(A_MINOR_SEVENTH);
        due(27, "of several the least", x.fewest(), 14);
        x.offer(C);
        due(27, "fewer, though more as a number", x.fewest(), 40);
        chords(x, 1);
        due(27, "none", x.fewest(), NONE);
        FeltZither y = chromatic(12);
        chords(y, C);
        due(27, "a song, no offers", y.fewest(), NONE);
    }

    private static void p28most() {
        FeltZither x = chromatic(12);
        due(28, "nothing", x.most(12), 0);
        x.offer(C_SEVENTH);
        x.offer(C_GREAT_SEVENTH);
        x.offer(F);
        x.offer(G);
        chords(x, C);
        chords(x, F);
        chords(x, G);
        chords(x, G, F);
        int[] wants = {0, 4, 12, 12, 15, 15};
        for (int m = 0; m < wants.length; m++) {
            due(28, "most " + m, x.most(m), wants[m]);
        }
        due(28, "12", x.most(12), 15);
        due(28, "below", x.most(-1), OUTSIDE);
        due(28, "above", x.most(13), OUTSIDE);
        FeltZither y = chromatic(12);
        y.offer(F);
        y.offer(G);
        chords(y, G);
        due(28, "with the fewest offers", y.most(2), 2);
        chords(y, F);
        due(28, "of several the least", y.most(1), 1);
    }

    private static void p29build() {
        FeltZither x = chromatic(12);
        x.offer(C);
        x.offer(F);
        x.offer(C_SEVENTH);
        x.blank();
        x.blank();
        x.blank();
        x.change(0, 2);
        x.felt(0, 5, true);
        x.wear(0, 5, true);
        hear(x, 1, 2, 2, 2, 2, 2, 2, 2, 2, 2, 2, 2, 2);
        due(29, "a bit too high", x.build(8), OUTSIDE);
        due(29, "nothing changed", x.told(2), 3);
        due(29, "rows, too", x.told(5), 1);
        due(29, "how many", x.build(5), 2);
        due(29, "bars", x.told(2), 2);
        due(29, "rows go", x.told(5), 0);
        due(29, "by number", x.ofBar(0, 1), C);
        due(29, "then", x.ofBar(1, 1), C_SEVENTH);
        due(29, "kind", x.ofBar(1, 0), 2);
        due(29, "place", x.ofBar(0, 5), 0);
        due(29, "felts", x.ofBar(0, 2), 9);
        due(29, "whole ones", x.ofBar(0, 3), 0);
        due(29, "offers stay", x.told(4), 3);
        x.string(25, false);
        x.build(5);
        due(29, "by strings as they are", x.has(0, 12), 2);
        due(29, "none", x.build(0), 0);
        due(29, "none left", x.told(2), 0);
        due(29, "numbers begin anew", x.blank(), 0);
        due(29, "without felts", x.ofBar(0, 2), 0);
        due(29, "of no chord", x.ofBar(0, 1), NONE);
        due(29, "the sign bit", x.build(MIN), OUTSIDE);
    }

    private static void p30change() {
        FeltZither x = new FeltZither();
        x.blank();
        x.blank();
        x.blank();
        due(30, "two", x.change(0, 2), 1);
        due(30, "one's place", x.ofBar(0, 5), 2);
        due(30, "the other's", x.ofBar(2, 5), 0);
        due(30, "no third one's", x.ofBar(1, 5), 1);
        due(30, "one and itself", x.change(0, 0), 0);
        due(30, "its place", x.ofBar(0, 5), 2);
        x.change(1, 0);
        due(30, "places, not numbers", x.ofBar(1, 5), 2);
        due(30, "no such bar", x.change(0, 3), UNKNOWN);
        due(30, "no such bar ahead", x.change(-1, 0), UNKNOWN);
        due(30, "none such and itself", x.change(3, 3), UNKNOWN);
        x.blank();
        due(30, "the next one's place is its number", x.ofBar(3, 5), 3);
    }

    private static void p31way() {
        FeltZither x = chromatic(12);
        due(31, "nothing", x.way(), 0);
        x.bar(C);
        x.bar(F);
        x.bar(G);
        chords(x, C, G, F, F, C);
        due(31, "2, 1, 0, 1", x.way(), 4);
        x.change(1, 2);
        due(31, "1, 1, 0, 2", x.way(), 4);
        x.change(0, 1);
        due(31, "1, 1, 0, 2, the other way", x.way(), 4);
        chords(x, C, 1, G, C);
        due(31, "no hold between: only the last two count", x.way(), 5);
        x.key(1, 5);
        due(31, "by the key: F, -, C, F", x.way(), 6);
        FeltZither y = chromatic(12);
        y.bar(G);
        y.bar(C_SEVENTH);
        y.bar(F);
        y.bar(C_GREAT_SEVENTH);
        chords(y, C, F, G);
        due(31, "the least bar of a hold of two: 1, 2, 0", y.way(), 3);
        y.change(1, 3);
        due(31, "by its place: 3, 2, 0", y.way(), 3);
    }

    private static void p32least() {
        FeltZither x = chromatic(12);
        due(32, "nothing", x.least(), 0);
        x.bar(C);
        x.bar(F);
        x.bar(G);
        chords(x, C, G, C, G, C, F);
        due(32, "C in the middle", x.least(), 5);
        due(32, "as bars stand", x.way(), 9);
        x.change(0, 1);
        due(32, "wherever they stand", x.least(), 5);
        due(32, "and they stay", x.ofBar(0, 5), 1);
        FeltZither y = chromatic(12);
        for (int b = 0; b < 12; b++) {
            y.bar(b);
        }
        chords(y, 0, 11, 1, 10, 2, 9, 3, 8, 4, 7, 5, 6);
        due(32, "a chain of twelve", y.least(), 11);
        due(32, "its way", y.way(), 66);
        chords(y, 6, 0);
        due(32, "a ring of twelve", y.least(), 22);
    }

    private static void p33arrange() {
        FeltZither x = chromatic(12);
        due(33, "nothing", x.arrange(), 0);
        x.bar(C);
        x.bar(F);
        x.bar(G);
        chords(x, C, G, C, G, C, F);
        due(33, "F C G: two others", x.arrange(), 2);
        due(33, "C", x.ofBar(0, 5), 1);
        due(33, "F", x.ofBar(1, 5), 0);
        due(33, "G", x.ofBar(2, 5), 2);
        due(33, "way", x.way(), 5);
        due(33, "again", x.arrange(), 0);
        x.change(0, 2);
        due(33, "back", x.arrange(), 2);
        FeltZither y = chromatic(12);
        for (int b = 0; b < 12; b++) {
            y.bar(b);
        }
        y.change(3, 7);
        due(33, "no songs: the first row of all", y.arrange(), 2);
        due(33, "its number", y.ofBar(3, 5), 3);
        chords(y, 0, 11, 1, 10, 2, 9, 3, 8, 4, 7, 5, 6);
        due(33, "a chain", y.arrange(), 11);
        int[] places = {0, 2, 4, 6, 8, 10, 11, 9, 7, 5, 3, 1};
        for (int b = 0; b < 12; b++) {
            due(33, "place of " + b, y.ofBar(b, 5), places[b]);
        }
        int least = y.least();
        for (int a = 0; a < 12; a++) {
            for (int b = a + 1; b < 12; b++) {
                y.change(a, b);
                CHECK.holds("promise 33: no change makes it less", y.way() >= least);
                y.change(a, b);
            }
        }
    }

    private static void p34trouble() {
        FeltZither x = chromatic(12);
        int empty = chords(x, C);
        due(34, "no bars: nine classes too many", x.trouble(empty), 90);
        x.bar(C);
        x.bar(F);
        due(34, "none", x.trouble(empty), 0);
        due(34, "a change costs 2 for each bar", x.trouble(chords(x, C, F)), 4);
        due(34, "a missing note", x.trouble(write(x, C, 25)), 30);
        due(34, "a note below all", x.trouble(write(x, C, 0)), 30);
        due(34, "a chord with two classes more and two less", x.trouble(chords(x, A_MINOR)), 20);
        due(34, "no such song", x.trouble(5), UNKNOWN);
        due(34, "no such song below", x.trouble(-1), UNKNOWN);
        x.key(0, 5);
        due(34, "by the key", x.trouble(0), 0);
        x.key(0, 1);
        x.bar(1);
        due(34, "by the key, another bar", x.trouble(0), 0);
        FeltZither y = chromatic(12);
        y.bar(C_SEVENTH);
        y.bar(C_GREAT_SEVENTH);
        due(34, "two bars", y.trouble(chords(y, C)), 0);
        due(34, "one more for a while", y.trouble(chords(y, C_SEVENTH, C, C_SEVENTH)), 4);
    }

    private static void p35grip() {
        FeltZither x = chromatic(12);
        x.bar(C);
        x.bar(F);
        int g = chords(x, C, F, C);
        due(35, "first", x.grip(g, 0), 1);
        due(35, "then", x.grip(g, 1), 2);
        due(35, "last", x.grip(g, 2), 1);
        due(35, "no such step", x.grip(g, 3), UNKNOWN);
        due(35, "no such step below", x.grip(g, -1), UNKNOWN);
        due(35, "no such song", x.grip(1, 0), UNKNOWN);
        FeltZither y = chromatic(12);
        y.bar(C_SEVENTH);
        y.bar(C_GREAT_SEVENTH);
        int both = chords(y, C, C_GREAT_SEVENTH);
        due(35, "two", y.grip(both, 0), 3);
        due(35, "then one", y.grip(both, 1), 2);
        FeltZither z = new FeltZither();
        z.string(24, false);
        z.string(28, false);
        z.string(31, false);
        z.blank();
        z.blank();
        z.blank();
        z.felt(1, 0, true);
        int none = chords(z, C, C);
        due(35, "of several the first: none", z.grip(none, 0), 0);
        due(35, "none", z.grip(none, 1), 0);
        z.string(25, false);
        z.felt(1, 3, true);
        z.felt(1, 0, false);
        z.felt(2, 3, true);
        due(35, "alone ahead of two, the first of the two alike", z.grip(none, 1), 2);
        due(35, "and ahead of it", z.grip(none, 0), 2);
    }

    private static void p36heard() {
        FeltZither x = chromatic(2);
        x.string(50, true);
        x.blank();
        due(36, "nothing there", x.heard(0, 0, 0, 0), NULL);
        x.sheet(0, 2, 4);
        due(36, "no such sheet", x.heard(0, 4, 2, 0), UNKNOWN);
        due(36, "unknown ahead of outside", x.heard(2, -1, 5, 0), UNKNOWN);
        due(36, "a bit too high", x.heard(2, 0, 2, 0), OUTSIDE);
        due(36, "the sign bit", x.heard(MIN, 0, 2, 0), OUTSIDE);
        due(36, "lane", x.heard(1, 0, 3, 0), OUTSIDE);
        due(36, "lane below, nothing there", x.heard(1, 1, -1, 0), OUTSIDE);
        due(36, "another lane ahead of index", x.heard(1, 0, 1, 9), CAST);
        due(36, "below", x.heard(1, 0, 2, -1), INDEX);
        due(36, "not all there", x.heard(1, 0, 2, 2), INDEX);
        due(36, "far off", x.heard(1, 0, 2, MAX), INDEX);
        due(36, "first", x.heard(1, 0, 2, 1), 0);
        x.put(0, 3, 3);
        due(36, "a cell above", x.heard(1, 0, 2, 1), OUTSIDE);
        due(36, "a cell that is not taken", x.heard(1, 0, 2, 0), 1);
        x.put(0, 0, -1);
        due(36, "a cell below", x.heard(1, 0, 2, 0), OUTSIDE);
        x.put(0, 0, 2);
        for (int row = 2; row < 20; row++) {
            due(36, "next", x.heard(1, 0, 2, 0), row);
        }
        due(36, "one too many", x.heard(1, 0, 2, 0), FULL);
        due(36, "outside ahead of full", x.heard(1, 0, 2, 1), OUTSIDE);
        due(36, "as many as before", x.told(5), 20);
        FeltZither y = new FeltZither();
        y.sheet(0, 0, 2);
        due(36, "no strings, from the end on", y.heard(0, 0, 0, 2), 0);
        due(36, "no strings, beyond the end", y.heard(0, 0, 0, 3), INDEX);
        due(36, "no strings, below", y.heard(0, 0, 0, -1), INDEX);
    }

    private static void p37worn() {
        FeltZither x = chromatic(3);
        x.blank();
        x.blank();
        x.felt(0, 0, true);
        x.felt(1, 0, true);
        x.felt(0, 1, true);
        due(37, "no rows", x.worn(), 0);
        x.wear(0, 0, true);
        due(37, "how they are is not asked", x.worn(), 0);
        hear(x, 3, 0, 2, 1);
        due(37, "all whole", x.worn(), 0);
        hear(x, 1, 1, 1, 2);
        due(37, "both of bar 0", x.worn(), 2);
        x.felt(0, 1, false);
        due(37, "as felts are when it is asked", x.worn(), 1);
        hear(x, 2, 1, 2, 2);
        due(37, "one of both must be whole", x.worn(), NONE);
        x.unhear();
        hear(x, 0, 0, 2, 2);
        due(37, "nothing was pressed", x.worn(), NONE);
        x.unhear();
        hear(x, 3, 2, 2, 0);
        due(37, "no felt there", x.worn(), NONE);
        x.felt(1, 2, true);
        due(37, "now there is one", x.worn(), 0);
        x.string(30, false);
        x.felt(1, 3, true);
        due(37, "a string that was not there is not told of", x.worn(), 0);
        x.unhear();
        hear(x, 3, 1, 2, 2, 1);
        due(37, "the first row tells of three", x.worn(), 3);
        hear(x, 3, 2, 2, 2, 2);
        due(37, "and still does", x.worn(), 3);
    }

    private static void p38sure() {
        FeltZither x = chromatic(2);
        x.string(40, true);
        x.blank();
        x.blank();
        x.felt(0, 0, true);
        x.felt(1, 0, true);
        x.felt(1, 1, true);
        due(38, "no rows", x.sure(0, 0), 2);
        hear(x, 3, 0, 2, 1);
        due(38, "one of two must be whole", x.sure(0, 0), 2);
        due(38, "the other", x.sure(1, 0), 2);
        hear(x, 1, 1, 2, 1);
        due(38, "worn", x.sure(0, 0), 1);
        due(38, "so the other is whole", x.sure(1, 0), 0);
        due(38, "nothing of this one", x.sure(1, 1), 2);
        due(38, "no felt", x.sure(0, 1), UNKNOWN);
        due(38, "no bar", x.sure(2, 0), UNKNOWN);
        due(38, "no string", x.sure(0, 3), UNKNOWN);
        due(38, "no bar below", x.sure(-1, 0), UNKNOWN);
        due(38, "no string below", x.sure(0, -1), UNKNOWN);
        hear(x, 2, 2, 2, 0);
        due(38, "a free one always sounds", x.sure(1, 1), STATE);
        due(38, "unknown ahead of state", x.sure(0, 1), UNKNOWN);
    }

    private static void p39unhear() {
        FeltZither x = chromatic(1);
        due(39, "none", x.unhear(), 0);
        hear(x, 0, 0);
        hear(x, 0, 1);
        due(39, "two", x.unhear(), 2);
        due(39, "gone", x.told(5), 0);
        due(39, "forgotten", x.worn(), 0);
        due(39, "numbers begin anew", hear(x, 0, 1), 0);
    }

    private static void p40otherwise() {
        FeltZither x = chromatic(12);
        x.tune(4, 27);
        x.bar(C);
        x.felt(0, 4, false);
        chords(x, C);
        write(x, C, 28);
        due(40, "now", x.playable(), 0);
        due(40, "1 more", x.otherwise(4, 1), 2);
        due(40, "its tone stays", x.ofString(4, 0), 27);
        due(40, "2 more", x.otherwise(4, 2), 0);
        x.tune(4, 30);
        due(40, "2 less", x.otherwise(4, -2), 2);
        due(40, "1 less", x.otherwise(4, -1), 0);
        x.tune(4, 27);
        due(40, "another string", x.otherwise(5, -1), 0);
        due(40, "0", x.otherwise(4, 0), OUTSIDE);
        due(40, "3", x.otherwise(4, 3), OUTSIDE);
        due(40, "-3", x.otherwise(4, -3), OUTSIDE);
        due(40, "far above", x.otherwise(4, MAX), OUTSIDE);
        due(40, "far below", x.otherwise(4, MIN), OUTSIDE);
        due(40, "no such string", x.otherwise(12, 1), UNKNOWN);
        due(40, "unknown ahead of outside", x.otherwise(-1, 0), UNKNOWN);
        x.tune(0, 1);
        due(40, "below the tones", x.otherwise(0, -2), OUTSIDE);
        due(40, "the lowest", x.otherwise(0, -1), 0);
        x.tune(0, 59);
        due(40, "above the tones", x.otherwise(0, 2), OUTSIDE);
        due(40, "the highest", x.otherwise(0, 1), 0);
        due(40, "it was 60 then: another octave", x.tune(0, 60), 59);
        due(40, "the first song, and the second by its note", x.otherwise(4, 1), 2);
        x.string(29, true);
        write(x, C, 31, C, 28);
        due(40, "a free one, too", x.otherwise(12, -1), 0);
        x.tune(4, 40);
        due(40, "a free one gives the note", x.otherwise(12, -1), 3);
    }

    private static void p41best() {
        FeltZither x = chromatic(12);
        due(41, "what above", x.best(3), 99);
        due(41, "what below", x.best(-1), 99);
        due(41, "nothing better: string", x.best(0), NONE);
        due(41, "nothing better: d", x.best(1), 0);
        due(41, "nothing better: songs", x.best(2), NONE);
        x.bar(C);
        x.tune(4, 26);
        chords(x, C);
        due(41, "string", x.best(0), 4);
        due(41, "d", x.best(1), 2);
        due(41, "songs", x.best(2), 1);
        x.tune(4, 28);
        due(41, "not more than now", x.best(0), NONE);
        due(41, "not more than now: d", x.best(1), 0);
        due(41, "not more than now: songs", x.best(2), NONE);
        x.tune(0, 23);
        due(41, "string 0", x.best(0), 0);
        due(41, "by 1", x.best(1), 1);
        x.tune(0, 0);
        x.tune(7, 60);
        due(41, "what is beyond the tones is left out", x.best(0), NONE);
        p41firstOfSeveral();
        p41twelveBars();
    }

    private static void p41firstOfSeveral() {
        FeltZither x = new FeltZither();
        x.string(24, false);
        x.string(31, false);
        x.string(30, true);
        x.string(30, true);
        x.string(28, false);
        x.blank();
        write(x, C, 29);
        write(x, C, 29);
        write(x, C, 31);
        due(41, "one can be played", x.playable(), 4);
        due(41, "the first string", x.best(0), 2);
        due(41, "d", x.best(1), -1);
        due(41, "songs", x.best(2), 3);
        FeltZither y = new FeltZither();
        y.string(24, false);
        y.string(31, false);
        y.string(28, false);
        y.string(36, true);
        y.blank();
        write(y, C, 38);
        write(y, C, 34);
        write(y, C, 37);
        write(y, C, 35);
        due(41, "the first d", y.best(1), -2);
        due(41, "of that string", y.best(0), 3);
        due(41, "one song each", y.best(2), 1);
        write(y, C, 38);
        due(41, "the greatest ahead of the first", y.best(1), 2);
    }

    /** As many bars, songs, steps, offers as there may be; the last two bars make the only hold. */
    private static void p41twelveBars() {
        FeltZither x = chromatic(36);
        for (int b = 0; b < 10; b++) {
            x.bar(60 + b);
        }
        x.bar(C_SEVENTH);
        x.bar(C_GREAT_SEVENTH);
        for (int k = 0; k < 12; k++) {
            x.offer(k < 10 ? 60 + k : k == 10 ? C_SEVENTH : C_GREAT_SEVENTH);
        }
        int[] cells = new int[48];
        for (int i = 0; i < 24; i++) {
            cells[2 * i + 1] = 24 + 12 * (i % 3);
        }
        for (int g = 0; g < 8; g++) {
            due(19, "a song of 24", write(x, cells), g);
        }
        due(16, "the last two", x.hold(C), 3 << 10);
        due(17, "of two", x.holds(2) > 0 ? 1 : 0, 1);
        due(24, "all", x.playable(), 255);
        due(34, "no trouble", x.trouble(7), 0);
        for (int i = 0; i < 24; i++) {
            due(35, "the last two", x.grip(7, i), 3 << 10);
        }
        due(27, "the last two", x.fewest(), 3 << 10);
        due(28, "the last two", x.most(12), 3 << 10);
        due(31, "no way", x.way(), 0);
        due(32, "none", x.least(), 0);
        due(33, "none", x.arrange(), 0);
        due(41, "all can be played", x.best(0), NONE);
        x.tune(12, 37);
        due(41, "until one is missing", x.playable(), 0);
        due(41, "which is found", x.best(0), 12);
        due(41, "and by how much", x.best(1), -1);
        due(41, "and for how many", x.best(2), 8);
        due(29, "all twelve", x.build(4095), 12);
    }

    private static void p42sheet() {
        FeltZither x = new FeltZither();
        due(42, "new", x.sheet(0, 0, 64), 1);
        due(42, "last", x.sheet(3, 2, 0), 1);
        due(42, "no such sheet", x.sheet(4, 0, 1), UNKNOWN);
        due(42, "unknown ahead of all", x.sheet(-1, 3, -1), UNKNOWN);
        due(42, "lane above", x.sheet(0, 3, 1), OUTSIDE);
        due(42, "lane below, size below", x.sheet(0, -1, -1), OUTSIDE);
        due(42, "too long", x.sheet(0, 0, 65), OUTSIDE);
        due(42, "far too long", x.sheet(0, 0, MAX), OUTSIDE);
        due(42, "size", x.sheet(0, 0, -1), SIZE);
        due(42, "fault", x.fault(), 4);
        due(42, "least size", x.sheet(0, 0, MIN), SIZE);
        due(42, "nothing changed", x.at(0, 63, 0), 0);
        x.put(0, 5, 9);
        due(42, "a new row", x.sheet(0, 0, 6), 1);
        due(42, "0 at first", x.at(0, 5, 0), 0);
        due(42, "of its own length", x.at(0, 6, 0), LOST);
        due(42, "another lane", x.sheet(0, 1, 6), 1);
        due(42, "is no longer the one it was", x.at(0, 0, 0), LOST);
        due(42, "a row of 0 is not nothing", x.put(3, 0, 0), INDEX);
    }

    private static void p43lose() {
        FeltZither x = new FeltZither();
        due(43, "nothing", x.lose(0), 0);
        x.sheet(0, 0, 0);
        due(43, "a row of 0", x.lose(0), 1);
        due(43, "again", x.lose(0), 0);
        x.sheet(3, 2, 5);
        due(43, "last", x.lose(3), 1);
        due(43, "nothing there", x.put(3, 0, 0), NULL);
        due(43, "it names no faults", x.lose(3), 0);
        due(43, "so the fault stays", x.fault(), 1);
        due(43, "none such", x.lose(4), UNKNOWN);
        due(43, "none such below", x.lose(-1), UNKNOWN);
    }

    private static void p44put() {
        FeltZither x = new FeltZither();
        x.sheet(0, 0, 2);
        x.sheet(1, 1, 2);
        x.sheet(2, 2, 2);
        int[] values = {127, 128, -129, 255, 32767, 32768, -32769, 65535, 70000, MIN, MAX, -1};
        for (int v : values) {
            for (int k = 0; k < 3; k++) {
                due(44, "put", x.put(k, 1, v), 1);
            }
            due(44, "byte of " + v, x.at(0, 1, 0), (byte) v);
            due(44, "short of " + v, x.at(1, 1, 1), (short) v);
            due(44, "int of " + v, x.at(2, 1, 2), v);
            due(44, "the other cell", x.at(2, 0, 2), 0);
        }
        due(44, "beyond", x.put(0, 2, 1), INDEX);
        due(44, "below", x.put(0, -1, 1), INDEX);
        due(44, "far off", x.put(0, MAX, 1), INDEX);
        due(44, "nothing", x.put(3, -1, 1), NULL);
        due(44, "none such", x.put(4, 0, 1), UNKNOWN);
        due(44, "none such below", x.put(-1, 0, 1), UNKNOWN);
    }

    private static void p45at() {
        FeltZither x = new FeltZither();
        x.sheet(1, 1, 3);
        x.put(1, 2, -5);
        due(45, "cell", x.at(1, 2, 1), -5);
        due(45, "fault", x.fault(), 0);
        long[][] wrong = {{1, 3, 1, 3}, {1, -1, 1, 3}, {1, 2, 0, 2}, {1, 9, 2, 2}, {0, 9, 0, 1}, {4, 0, 1, 0},
            {-1, 0, 9, 0}, {1, 2, 3, 0}, {0, 2, -1, 0}, {1, MAX, 1, 3}, {1, MIN, 1, 3}};
        for (long[] row : wrong) {
            due(45, "lost", x.at((int) row[0], (int) row[1], (int) row[2]), LOST);
            due(45, "its fault", x.fault(), row[3]);
        }
    }

    private static void p46tell() {
        FeltZither x = chromatic(12);
        x.blank();
        x.bar(A_MINOR);
        x.bar(A_MINOR_SEVENTH);
        x.felt(0, 3, true);
        x.felt(0, 4, true);
        x.wear(0, 4, true);
        due(46, "by hand", x.tell(0), 2);
        due(46, "its trace", x.trace(), 1);
        due(46, "a chord's", x.tell(1), 9 + A_MINOR);
        due(46, "its trace", x.trace(), (31 + 2) * 31 + 1);
        int ahead = x.trace();
        due(46, "a seventh's", x.tell(2), 8 + A_MINOR_SEVENTH + 8);
        due(46, "its trace", x.trace(), (((ahead * 31 + 3) * 31 + 2) * 31 + 1) * 31 + 1);
        due(46, "none such", x.tell(3), UNKNOWN);
        due(46, "none such below", x.tell(-1), UNKNOWN);
    }

    private static void p47name() {
        FeltZither x = chromatic(1);
        x.blank();
        x.bar(C);
        x.bar(C_SEVENTH);
        due(47, "by hand", x.name(0), 10);
        due(47, "its trace", x.trace(), 4);
        due(47, "a chord's", x.name(1), 11);
        due(47, "its trace", x.trace(), 4 * 31 + 4);
        due(47, "a seventh's", x.name(2), 77);
        due(47, "its trace", x.trace(), (4 * 31 + 4) * 31 + 5);
        due(47, "none such", x.name(3), UNKNOWN);
        due(47, "none such below", x.name(-1), UNKNOWN);
        due(47, "no trace of it", x.trace(), (4 * 31 + 4) * 31 + 5);
    }

    private static void p48as() {
        FeltZither x = new FeltZither();
        x.blank();
        x.bar(C);
        x.bar(C_GREAT_SEVENTH);
        for (int b = 0; b < 3; b++) {
            for (int kind = 0; kind < 3; kind++) {
                due(48, b + " as " + kind, x.as(b, kind), kind <= b ? 1 : CAST);
                due(48, "its fault", x.fault(), kind <= b ? 0 : 2);
            }
            due(48, "kind above", x.as(b, 3), OUTSIDE);
            due(48, "kind below", x.as(b, -1), OUTSIDE);
        }
        due(48, "none such", x.as(3, 0), UNKNOWN);
        due(48, "unknown ahead of outside", x.as(-1, 3), UNKNOWN);
    }

    private static void p49trace() {
        FeltZither x = new FeltZither();
        x.bar(C_SEVENTH);
        int want = 0;
        for (int k = 0; k < 20; k++) {
            x.tell(0);
            for (int body : new int[] {3, 2, 1, 1}) {
                want = want * 31 + body;
            }
            due(49, "it wraps", x.trace(), want);
        }
        x.tell(9);
        x.as(0, 0);
        x.build(0);
        due(49, "it stays", x.trace(), want);
    }

    private static void p50fault() {
        FeltZither x = chromatic(1);
        due(50, "ahead of any", x.fault(), 0);
        x.put(0, 0, 0);
        due(50, "null", x.fault(), 1);
        x.tune(9, 9);
        x.told(0);
        x.lose(9);
        due(50, "calls that name none leave it", x.fault(), 1);
        x.put(9, 0, 0);
        due(50, "refused", x.fault(), 0);
        x.sheet(0, 0, -1);
        due(50, "size", x.fault(), 4);
        x.sheet(0, 0, 2);
        due(50, "came to none", x.fault(), 0);
        x.put(0, 2, 0);
        due(50, "index", x.fault(), 3);
        x.heard(0, 0, 0, 0);
        due(50, "came to none, heard", x.fault(), 0);
        x.heard(0, 0, 1, 0);
        due(50, "cast", x.fault(), 2);
        x.song(0, 0, 0, 0);
        due(50, "refused behind the faults", x.fault(), 0);
        x.at(0, 5, 0);
        due(50, "at", x.fault(), 3);
        x.song(0, 0, 0, 1);
        due(50, "came to none, song", x.fault(), 0);
        x.at(1, 0, 0);
        due(50, "at nothing", x.fault(), 1);
        x.sheet(0, 9, 0);
        due(50, "refused, sheet", x.fault(), 0);
        x.at(1, 0, 0);
        x.put(0, 0, 1);
        due(50, "came to none, put", x.fault(), 0);
        x.at(1, 0, 0);
        x.at(0, 0, 0);
        due(50, "came to none, at", x.fault(), 0);
        x.at(1, 0, 0);
        x.heard(1, 0, 0, 0);
        due(50, "refused, heard", x.fault(), 0);
        x.at(1, 0, 0);
        x.as(0, 0);
        due(50, "refused, as", x.fault(), 0);
    }

    private static void p51told() {
        FeltZither x = new FeltZither();
        x.string(0, false);
        x.string(12, false);
        x.string(13, true);
        x.string(35, false);
        x.bar(C);
        x.blank();
        chords(x, C);
        x.offer(F);
        x.offer(G);
        x.offer(C);
        hear(x, 0, 2, 2, 2, 2);
        int[] wants = {4, 1, 2, 1, 3, 1, 2};
        for (int what = 0; what <= 6; what++) {
            due(51, "told " + what, x.told(what), wants[what]);
        }
        due(51, "below", x.told(-1), OUTSIDE);
        due(51, "above", x.told(7), OUTSIDE);
        due(51, "far above", x.told(MAX), OUTSIDE);
    }
}

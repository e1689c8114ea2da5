import java.util.Arrays;

/**
 * A zither whose bars press felt on the strings that do not belong to a chord.
 *
 * <p>The document (DOC.md) tells what each call promises; its words in capitals are the words used
 * here. Strings, bars, songs and offers are few, so sets of them are held as bits, and every row
 * that a call needs is made once, with the object.
 */
public final class FeltZither {
    public static final int UNKNOWN = -1, OUTSIDE = -2, STATE = -3, FULL = -4, NONE = -9;
    public static final long LOST = Long.MIN_VALUE;

    private static final int NULL = 1, CAST = 2, INDEX = 3, SIZE = 4;

    private static final int STRINGS = 36;
    private static final int TONES = 61;
    private static final int CLASSES = 12;
    private static final int ALL_CLASSES = (1 << CLASSES) - 1;
    private static final int CHORDS = 96;
    private static final int BARS = 12;
    private static final int GRIPS = 1 + BARS + BARS * (BARS - 1) / 2;
    private static final int SONGS = 8;
    private static final int STEPS = 24;
    private static final int NO_NOTE = -1;
    private static final int LOWEST_KEY = -6;
    private static final int HIGHEST_KEY = 5;
    private static final int OFFERS = 12;
    private static final int ROWS = 20;
    private static final int SHEETS = 4;
    private static final int LANES = 3;
    private static final int CELLS = 64;

    private static final int BY_HAND = 0, OF_CHORD = 1, OF_SEVENTH = 2;

    /** What is answered instead of a refusal, where a number below 0 could be an answer. */
    private static final int REFUSED_BESIDE_NEGATIVES = 99;

    /** The classes of each sort above root 0, as bits. */
    private static final int[] SORTS = {
        1 | 1 << 4 | 1 << 7,
        1 | 1 << 3 | 1 << 7,
        1 | 1 << 4 | 1 << 7 | 1 << 10,
        1 | 1 << 3 | 1 << 7 | 1 << 10,
        1 | 1 << 3 | 1 << 6,
        1 | 1 << 5 | 1 << 7,
        1 | 1 << 4 | 1 << 7 | 1 << 11,
        1 | 1 << 4 | 1 << 8
    };

    /** By how much one string may be tuned otherwise, in the order that decides between equals. */
    private static final int[] SHIFTS = {-2, -1, 1, 2};

    private final Strings strings;
    private final Rack rack;
    private final Grips grips;
    private final Book book;
    private final Offers offers;
    private final Frame frame;
    private final Player player;
    private final Ear ear;
    private final Sheet[] sheets;
    private int trace;
    private int fault;

    public FeltZither() {
        strings = new Strings();
        rack = new Rack();
        grips = new Grips();
        book = new Book();
        offers = new Offers();
        frame = new Frame();
        player = new Player();
        ear = new Ear();
        sheets = new Sheet[SHEETS];
        for (int k = 0; k < SHEETS; k++) {
            sheets[k] = new Sheet();
        }
        trace = 0;
        fault = 0;
    }

    // ---- 1 strings, bars

    public int string(int tone, boolean free) {
        if (!isTone(tone)) {
            return OUTSIDE;
        }
        if (strings.isFull()) {
            return FULL;
        }
        return strings.add(tone, free);
    }

    public int tune(int s, int tone) {
        if (!strings.knows(s)) {
            return UNKNOWN;
        }
        if (!isTone(tone)) {
            return OUTSIDE;
        }
        int was = strings.tones[s];
        strings.retune(s, tone);
        return was;
    }

    public int bar(int chord) {
        if (!isChord(chord)) {
            return OUTSIDE;
        }
        if (rack.isFull()) {
            return FULL;
        }
        return rack.add(chord, strings.notOfClasses(classesOf(chord)));
    }

    public int blank() {
        if (rack.isFull()) {
            return FULL;
        }
        return rack.add(NONE, 0L);
    }

    public int felt(int b, int s, boolean is) {
        if (!rack.knows(b) || !strings.knows(s)) {
            return UNKNOWN;
        }
        if (strings.isFree(s)) {
            return STATE;
        }
        return asNumber(rack.bars[b].setFelt(s, is));
    }

    public int wear(int b, int s, boolean is) {
        if (!hasFelt(b, s)) {
            return UNKNOWN;
        }
        return asNumber(rack.bars[b].setWorn(s, is));
    }

    public int ofString(int s, int what) {
        if (!strings.knows(s)) {
            return UNKNOWN;
        }
        switch (what) {
            case 0:
                return strings.tones[s];
            case 1:
                return asNumber(strings.isFree(s));
            case 2:
                return strings.tones[s] % CLASSES;
            case 3:
                return rack.wholeFeltsOn(s);
            default:
                return OUTSIDE;
        }
    }

    public int ofBar(int b, int what) {
        if (!rack.knows(b)) {
            return UNKNOWN;
        }
        Bar bar = rack.bars[b];
        switch (what) {
            case 0:
                return bar.kind();
            case 1:
                return bar.chord;
            case 2:
                return Long.bitCount(bar.felts);
            case 3:
                return Long.bitCount(bar.wornOnes);
            case 4:
                return strings.classesAmong(~bar.wholeOnes());
            case 5:
                return bar.place;
            default:
                return OUTSIDE;
        }
    }

    public int has(int b, int s) {
        if (!rack.knows(b) || !strings.knows(s)) {
            return UNKNOWN;
        }
        Bar bar = rack.bars[b];
        if (!bar.hasFelt(s)) {
            return 0;
        }
        return bar.isWorn(s) ? 1 : 2;
    }

    public int sounds(int set, int s) {
        if (!strings.knows(s)) {
            return UNKNOWN;
        }
        if (!rack.isSet(set)) {
            return OUTSIDE;
        }
        return asNumber(!hasBit(rack.hushed(set), s));
    }

    public int classes(int set) {
        if (!rack.isSet(set)) {
            return OUTSIDE;
        }
        return strings.classesAmong(~rack.hushed(set));
    }

    public int chord(int chord) {
        if (!isChord(chord)) {
            return OUTSIDE;
        }
        return classesOf(chord);
    }

    public int gives(int set, int chord) {
        if (!rack.isSet(set) || !isChord(chord)) {
            return OUTSIDE;
        }
        return asNumber(strings.classesAmong(~rack.hushed(set)) == classesOf(chord));
    }

    public int lack(int chord) {
        if (!isChord(chord)) {
            return OUTSIDE;
        }
        return classesOf(chord) & ~strings.classesAmong(strings.all());
    }

    public int hold(int chord) {
        if (!isChord(chord)) {
            return OUTSIDE;
        }
        lookAtGrips();
        int grip = grips.holdOf(chord);
        return grip == 0 ? NONE : grips.sets[grip];
    }

    public int holds(int n) {
        if (n < 0 || n > 2) {
            return OUTSIDE;
        }
        lookAtGrips();
        int found = 0;
        for (int chord = 0; chord < CHORDS; chord++) {
            if (Integer.bitCount(grips.sets[grips.holdOf(chord)]) == n) {
                found++;
            }
        }
        return found;
    }

    public int strum(int set, int what) {
        if (!rack.isSet(set)) {
            return OUTSIDE;
        }
        long sounding = strings.all() & ~rack.hushed(set);
        long heights = strings.tonesAmong(sounding);
        switch (what) {
            case 0:
                return Long.bitCount(sounding);
            case 1:
                return heights == 0 ? NONE : Long.numberOfTrailingZeros(heights);
            case 2:
                return heights == 0 ? NONE : 63 - Long.numberOfLeadingZeros(heights);
            case 3:
                return greatestStep(heights);
            default:
                return OUTSIDE;
        }
    }

    // ---- 2 songs

    public int song(int sheet, int lane, int i, int n) {
        fault = 0;
        if (!isSheet(sheet)) {
            return UNKNOWN;
        }
        if (!isLane(lane)) {
            return OUTSIDE;
        }
        Sheet from = sheets[sheet];
        int met = from.faultAs(lane);
        if (met == 0 && n < 0) {
            met = SIZE;
        }
        if (met == 0 && !from.hasCells(i, 2L * n)) {
            met = INDEX;
        }
        if (met != 0) {
            return fail(met);
        }
        if (n < 1 || n > STEPS || !hasSong(from, i, n)) {
            return OUTSIDE;
        }
        if (book.isFull()) {
            return FULL;
        }
        return book.add(from, i, n);
    }

    public int step(int g, int i, int what) {
        if (!hasStep(g, i)) {
            return UNKNOWN;
        }
        Song song = book.songs[g];
        switch (what) {
            case 0:
                return song.chordIn(song.key, i);
            case 1:
                return song.hasNote(i) ? song.noteIn(song.key, i) : NONE;
            case 2:
                lookAtGrips();
                return asNumber(grips.missesChord(song, song.key, i));
            case 3:
                lookAtGrips();
                return asNumber(grips.missesNote(song, song.key, i));
            default:
                return OUTSIDE;
        }
    }

    public int key(int g, int t) {
        if (!book.knows(g)) {
            return UNKNOWN;
        }
        if (t < LOWEST_KEY || t > HIGHEST_KEY) {
            return OUTSIDE;
        }
        int was = book.songs[g].key;
        book.songs[g].key = t;
        return was;
    }

    public int misses(int g, int what) {
        if (!book.knows(g)) {
            return UNKNOWN;
        }
        Song song = book.songs[g];
        lookAtGrips();
        switch (what) {
            case 0:
                return grips.missedChords(song, song.key);
            case 1:
                return grips.missedNotes(song, song.key);
            case 2:
                return grips.missed(song, song.key);
            case 3:
                return song.steps;
            case 4:
                return song.key;
            default:
                return OUTSIDE;
        }
    }

    public int bestKey(int g) {
        if (!book.knows(g)) {
            return REFUSED_BESIDE_NEGATIVES;
        }
        lookAtGrips();
        return grips.bestKeyOf(book.songs[g]);
    }

    public int playable() {
        lookAtGrips();
        return book.playedWith(grips);
    }

    // ---- 3 offers

    public int offer(int chord) {
        if (!isChord(chord)) {
            return OUTSIDE;
        }
        if (offers.hasChord(chord)) {
            return STATE;
        }
        if (offers.isFull()) {
            return FULL;
        }
        return offers.add(chord);
    }

    public int serves(int set) {
        if (!offers.isSet(set)) {
            return OUTSIDE;
        }
        lookAtOffers();
        return offers.servedBy(set);
    }

    public int fewest() {
        lookAtOffers();
        int set = offers.mostServing(OFFERS);
        return offers.servedBy(set) == book.all() ? set : NONE;
    }

    public int most(int m) {
        if (m < 0 || m > OFFERS) {
            return OUTSIDE;
        }
        lookAtOffers();
        return offers.mostServing(m);
    }

    public int build(int set) {
        if (!offers.isSet(set)) {
            return OUTSIDE;
        }
        rack.clear();
        ear.clear();
        for (int k = 0; k < offers.count; k++) {
            if (hasBit(set, k)) {
                bar(offers.chords[k]);
            }
        }
        return rack.count;
    }

    // ---- 4 the frame, playing

    public int change(int a, int b) {
        if (!rack.knows(a) || !rack.knows(b)) {
            return UNKNOWN;
        }
        if (a == b) {
            return 0;
        }
        int place = rack.bars[a].place;
        rack.bars[a].place = rack.bars[b].place;
        rack.bars[b].place = place;
        return 1;
    }

    public int way() {
        lookAtFrame();
        return frame.wayOf(rack);
    }

    public int least() {
        lookAtFrame();
        return frame.leastWay(rack.count);
    }

    public int arrange() {
        lookAtFrame();
        frame.leastWay(rack.count);
        return frame.putInOrder(rack);
    }

    public int trouble(int g) {
        if (!book.knows(g)) {
            return UNKNOWN;
        }
        lookAtGrips();
        player.plan(book.songs[g], grips);
        return player.leastTrouble(grips);
    }

    public int grip(int g, int i) {
        if (!hasStep(g, i)) {
            return UNKNOWN;
        }
        lookAtGrips();
        player.plan(book.songs[g], grips);
        return player.setAt(i, grips);
    }

    // ---- 5 what was heard

    public int heard(int set, int sheet, int lane, int i) {
        fault = 0;
        if (!isSheet(sheet)) {
            return UNKNOWN;
        }
        if (!rack.isSet(set) || !isLane(lane)) {
            return OUTSIDE;
        }
        Sheet from = sheets[sheet];
        int met = from.faultAs(lane);
        if (met == 0 && !from.hasCells(i, strings.count)) {
            met = INDEX;
        }
        if (met != 0) {
            return fail(met);
        }
        if (!hasHearing(from, i, strings.count)) {
            return OUTSIDE;
        }
        if (ear.isFull()) {
            return FULL;
        }
        return ear.add(set, from, i, strings.count);
    }

    public int worn() {
        ear.findWorn(rack);
        return ear.explains(rack) ? ear.howManyWorn() : NONE;
    }

    public int sure(int b, int s) {
        if (!hasFelt(b, s)) {
            return UNKNOWN;
        }
        ear.findWorn(rack);
        if (!ear.explains(rack)) {
            return STATE;
        }
        if (ear.takesAsWorn(b, s)) {
            return 1;
        }
        ear.takeAsWorn(b, s);
        return ear.explains(rack) ? 2 : 0;
    }

    public int unhear() {
        int were = ear.count;
        ear.clear();
        return were;
    }

    // ---- 6 otherwise

    public int otherwise(int s, int d) {
        if (!strings.knows(s)) {
            return UNKNOWN;
        }
        if (!isShift(d) || !isTone(strings.tones[s] + d)) {
            return OUTSIDE;
        }
        return songsWith(s, d);
    }

    public int best(int what) {
        if (what < 0 || what > 2) {
            return REFUSED_BESIDE_NEGATIVES;
        }
        lookAtGrips();
        int top = Integer.bitCount(book.playedWith(grips));
        int string = NONE;
        int by = 0;
        for (int s = 0; s < strings.count; s++) {
            for (int d : SHIFTS) {
                int songs = isTone(strings.tones[s] + d) ? songsWith(s, d) : 0;
                if (songs > top) {
                    top = songs;
                    string = s;
                    by = d;
                }
            }
        }
        if (what == 0) {
            return string;
        }
        if (what == 1) {
            return by;
        }
        return string == NONE ? NONE : top;
    }

    // ---- sheets, parts

    public int sheet(int k, int lane, int n) {
        fault = 0;
        if (!isSheet(k)) {
            return UNKNOWN;
        }
        if (!isLane(lane) || n > CELLS) {
            return OUTSIDE;
        }
        if (n < 0) {
            return fail(SIZE);
        }
        sheets[k].begin(lane, n);
        return 1;
    }

    public int lose(int k) {
        if (!isSheet(k)) {
            return UNKNOWN;
        }
        return asNumber(sheets[k].drop());
    }

    public int put(int k, int i, int v) {
        fault = 0;
        if (!isSheet(k)) {
            return UNKNOWN;
        }
        if (sheets[k].isNothing()) {
            return fail(NULL);
        }
        if (!sheets[k].hasCell(i)) {
            return fail(INDEX);
        }
        sheets[k].write(i, v);
        return 1;
    }

    public long at(int k, int i, int lane) {
        fault = 0;
        if (!isSheet(k) || !isLane(lane)) {
            return LOST;
        }
        fault = sheets[k].faultAs(lane);
        if (fault == 0 && !sheets[k].hasCell(i)) {
            fault = INDEX;
        }
        return fault == 0 ? sheets[k].cells[i] : LOST;
    }

    public int tell(int b) {
        if (!rack.knows(b)) {
            return UNKNOWN;
        }
        Bar bar = rack.bars[b];
        switch (bar.kind()) {
            case OF_SEVENTH:
                return tellSeventh(bar);
            case OF_CHORD:
                return tellChord(bar);
            default:
                return tellByHand(bar);
        }
    }

    public int name(int b) {
        if (!rack.knows(b)) {
            return UNKNOWN;
        }
        if (rack.bars[b].kind() == OF_SEVENTH) {
            leaveInTrace(5);
            return 77;
        }
        leaveInTrace(4);
        return b + 10;
    }

    public int as(int b, int kind) {
        fault = 0;
        if (!rack.knows(b)) {
            return UNKNOWN;
        }
        if (kind < BY_HAND || kind > OF_SEVENTH) {
            return OUTSIDE;
        }
        return rack.bars[b].kind() < kind ? fail(CAST) : 1;
    }

    public int trace() {
        return trace;
    }

    public int fault() {
        return fault;
    }

    public int told(int what) {
        switch (what) {
            case 0:
                return strings.count;
            case 1:
                return Long.bitCount(strings.freeOnes);
            case 2:
                return rack.count;
            case 3:
                return book.count;
            case 4:
                return offers.count;
            case 5:
                return ear.count;
            case 6:
                return Integer.bitCount(strings.classesAmong(strings.all()));
            default:
                return OUTSIDE;
        }
    }

    // ---- what several calls use

    private static boolean isTone(int tone) {
        return tone >= 0 && tone < TONES;
    }

    private static boolean isChord(int chord) {
        return chord >= 0 && chord < CHORDS;
    }

    private static boolean isSheet(int k) {
        return k >= 0 && k < SHEETS;
    }

    private static boolean isLane(int lane) {
        return lane >= 0 && lane < LANES;
    }

    private static boolean isShift(int d) {
        return d >= -2 && d <= 2 && d != 0;
    }

    private static boolean hasBit(long set, int k) {
        return (set >>> k & 1L) != 0;
    }

    private static int asNumber(boolean is) {
        return is ? 1 : 0;
    }

    /** The classes of a chord, as bits: its sort's, turned round within the twelve by its root. */
    private static int classesOf(int chord) {
        if (!isChord(chord)) {
            return 0;
        }
        int aboveRoot = SORTS[chord / CLASSES];
        int root = chord % CLASSES;
        return (aboveRoot << root | aboveRoot >>> CLASSES - root) & ALL_CLASSES;
    }

    /** The greatest step from one tone to the next, of tones as bits. */
    private static int greatestStep(long heights) {
        int greatest = 0;
        int below = NONE;
        for (int tone = 0; tone < TONES; tone++) {
            if (hasBit(heights, tone)) {
                if (below != NONE) {
                    greatest = Math.max(greatest, tone - below);
                }
                below = tone;
            }
        }
        return greatest;
    }

    /** Whether the 2n cells from i on are chords and notes by turns; the cells must be there. */
    private static boolean hasSong(Sheet from, int i, int n) {
        for (int k = 0; k < n; k++) {
            int note = from.cells[i + 2 * k + 1];
            if (!isChord(from.cells[i + 2 * k]) || note != NO_NOTE && !isTone(note)) {
                return false;
            }
        }
        return true;
    }

    /** Whether the n cells from i on tell what was heard; the cells must be there. */
    private static boolean hasHearing(Sheet from, int i, int n) {
        for (int k = 0; k < n; k++) {
            int told = from.cells[i + k];
            if (told < 0 || told > 2) {
                return false;
            }
        }
        return true;
    }

    private boolean hasFelt(int b, int s) {
        return rack.knows(b) && strings.knows(s) && rack.bars[b].hasFelt(s);
    }

    private boolean hasStep(int g, int i) {
        return book.knows(g) && i >= 0 && i < book.songs[g].steps;
    }

    private int fail(int met) {
        fault = met;
        return -10 - met;
    }

    private void lookAtGrips() {
        grips.look(strings, rack);
    }

    private void lookAtOffers() {
        offers.lookAtSongs(book);
        offers.lookAtClasses(strings.classesAmong(strings.all()));
    }

    private void lookAtFrame() {
        lookAtGrips();
        frame.countMoves(book, grips);
    }

    /** How many songs can be played with a string tuned by d more, within the tones. */
    private int songsWith(int s, int d) {
        int tone = strings.tones[s];
        strings.retune(s, tone + d);
        lookAtGrips();
        int songs = Integer.bitCount(book.playedWith(grips));
        strings.retune(s, tone);
        return songs;
    }

    private void leaveInTrace(int body) {
        trace = 31 * trace + body;
    }

    private int tellByHand(Bar bar) {
        leaveInTrace(1);
        return Long.bitCount(bar.felts);
    }

    private int tellChord(Bar bar) {
        leaveInTrace(2);
        return tellByHand(bar) + bar.chord;
    }

    private int tellSeventh(Bar bar) {
        leaveInTrace(3);
        int asChord = tellChord(bar);
        return asChord + tellByHand(bar);
    }

    /** The strings. Which of them have a class or a tone is kept as bits, for quick asking. */
    private static final class Strings {
        final int[] tones = new int[STRINGS];
        /** By class: the strings not free. */
        final long[] ofClass = new long[CLASSES];
        /** By tone: all strings, free ones too. */
        final long[] ofTone = new long[TONES];
        long freeOnes = 0L;
        int count = 0;

        boolean knows(int s) {
            return s >= 0 && s < count;
        }

        boolean isFull() {
            return count >= STRINGS;
        }

        boolean isFree(int s) {
            return hasBit(freeOnes, s);
        }

        long all() {
            return (1L << count) - 1;
        }

        int add(int tone, boolean free) {
            int s = count;
            count++;
            tones[s] = tone;
            if (free) {
                freeOnes |= 1L << s;
            }
            turnBits(s);
            return s;
        }

        void retune(int s, int tone) {
            turnBits(s);
            tones[s] = tone;
            turnBits(s);
        }

        private void turnBits(int s) {
            ofTone[tones[s]] ^= 1L << s;
            if (!isFree(s)) {
                ofClass[tones[s] % CLASSES] ^= 1L << s;
            }
        }

        /** The classes that those of some strings have that are not free. */
        int classesAmong(long some) {
            int found = 0;
            for (int k = 0; k < CLASSES; k++) {
                if ((ofClass[k] & some) != 0) {
                    found |= 1 << k;
                }
            }
            return found;
        }

        /** The strings not free whose class is none of these. */
        long notOfClasses(int these) {
            long found = 0L;
            for (int k = 0; k < CLASSES; k++) {
                if (!hasBit(these, k)) {
                    found |= ofClass[k];
                }
            }
            return found;
        }

        long tonesAmong(long some) {
            long found = 0L;
            for (int tone = 0; tone < TONES; tone++) {
                if ((ofTone[tone] & some) != 0) {
                    found |= 1L << tone;
                }
            }
            return found;
        }
    }

    /** A bar: the strings that it has felts on, and those of them whose felt is worn, as bits. */
    private static final class Bar {
        int chord = NONE;
        long felts = 0L;
        long wornOnes = 0L;
        int place = 0;

        int kind() {
            if (!isChord(chord)) {
                return BY_HAND;
            }
            int sort = chord / CLASSES;
            return sort == 2 || sort == 3 || sort == 6 ? OF_SEVENTH : OF_CHORD;
        }

        long wholeOnes() {
            return felts & ~wornOnes;
        }

        boolean hasFelt(int s) {
            return hasBit(felts, s);
        }

        boolean isWorn(int s) {
            return hasBit(wornOnes, s);
        }

        /** Whether this changed anything; a felt that is put anew is whole. */
        boolean setFelt(int s, boolean is) {
            if (hasFelt(s) == is) {
                return false;
            }
            felts ^= 1L << s;
            wornOnes &= ~(1L << s);
            return true;
        }

        boolean setWorn(int s, boolean is) {
            if (isWorn(s) == is) {
                return false;
            }
            wornOnes ^= 1L << s;
            return true;
        }
    }

    /** The bars that there are. */
    private static final class Rack {
        final Bar[] bars = new Bar[BARS];
        int count = 0;

        Rack() {
            for (int b = 0; b < BARS; b++) {
                bars[b] = new Bar();
            }
        }

        boolean knows(int b) {
            return b >= 0 && b < count;
        }

        boolean isFull() {
            return count >= BARS;
        }

        boolean isSet(int set) {
            return set >>> count == 0;
        }

        int add(int chord, long felts) {
            int b = count;
            count++;
            bars[b].chord = chord;
            bars[b].felts = felts;
            bars[b].wornOnes = 0L;
            bars[b].place = b;
            return b;
        }

        void clear() {
            count = 0;
        }

        /** The strings that do not sound with a set of bars. */
        long hushed(int set) {
            long found = 0L;
            for (int b = 0; b < count; b++) {
                if (hasBit(set, b)) {
                    found |= bars[b].wholeOnes();
                }
            }
            return found;
        }

        int wholeFeltsOn(int s) {
            int found = 0;
            for (int b = 0; b < count; b++) {
                if (hasBit(bars[b].wholeOnes(), s)) {
                    found++;
                }
            }
            return found;
        }
    }

    /** The steps of a song as they were written; the key to read them in comes with a question. */
    private static final class Song {
        final int[] chords = new int[STEPS];
        final int[] notes = new int[STEPS];
        int steps = 0;
        int key = 0;

        int chordIn(int inKey, int i) {
            int root = chords[i] % CLASSES;
            return chords[i] - root + Math.floorMod(root + inKey, CLASSES);
        }

        boolean hasNote(int i) {
            return notes[i] != NO_NOTE;
        }

        int noteIn(int inKey, int i) {
            return notes[i] + inKey;
        }
    }

    /** The songs that there are. */
    private static final class Book {
        final Song[] songs = new Song[SONGS];
        int count = 0;

        Book() {
            for (int g = 0; g < SONGS; g++) {
                songs[g] = new Song();
            }
        }

        boolean knows(int g) {
            return g >= 0 && g < count;
        }

        boolean isFull() {
            return count >= SONGS;
        }

        int all() {
            return (1 << count) - 1;
        }

        int add(Sheet from, int i, int n) {
            int g = count;
            count++;
            songs[g].steps = n;
            for (int k = 0; k < n; k++) {
                songs[g].chords[k] = from.cells[i + 2 * k];
                songs[g].notes[k] = from.cells[i + 2 * k + 1];
            }
            return g;
        }

        int playedWith(Grips grips) {
            int found = 0;
            for (int g = 0; g < count; g++) {
                if (grips.canPlay(songs[g])) {
                    found |= 1 << g;
                }
            }
            return found;
        }
    }

    /**
     * The grips, numbered as for playing, and what sounds with them, as strings and bars were at
     * the latest look(). The order of grips is the order of holds, too: the first one behind 0 that
     * gives a chord is its hold, and 0 stands for none.
     */
    private static final class Grips {
        private static final int NOT_SOUGHT = -1;

        final int[] sets = new int[GRIPS];
        final long[] sounding = new long[GRIPS];
        final int[] classBits = new int[GRIPS];
        /** By chord: its hold, once it was sought. */
        final int[] found = new int[CHORDS];
        /** By tone: the strings that have it. */
        final long[] ofTone = new long[TONES];
        int count = 0;

        void look(Strings strings, Rack rack) {
            System.arraycopy(strings.ofTone, 0, ofTone, 0, TONES);
            Arrays.fill(found, NOT_SOUGHT);
            count = 0;
            add(0, 0L, strings);
            for (int a = 0; a < rack.count; a++) {
                add(1 << a, rack.bars[a].wholeOnes(), strings);
            }
            for (int a = 0; a < rack.count; a++) {
                for (int b = a + 1; b < rack.count; b++) {
                    long hushed = rack.bars[a].wholeOnes() | rack.bars[b].wholeOnes();
                    add(1 << a | 1 << b, hushed, strings);
                }
            }
        }

        private void add(int set, long hushed, Strings strings) {
            if (count < GRIPS) {
                sets[count] = set;
                sounding[count] = ~hushed;
                classBits[count] = strings.classesAmong(~hushed);
                count++;
            }
        }

        /** The grip of a set of one bar, or of none. */
        static int gripOf(int set) {
            return set == 0 ? 0 : 1 + Integer.numberOfTrailingZeros(set);
        }

        int holdOf(int chord) {
            if (found[chord] == NOT_SOUGHT) {
                found[chord] = seekHold(classesOf(chord));
            }
            return found[chord];
        }

        private int seekHold(int wanted) {
            for (int grip = 1; grip < count; grip++) {
                if (classBits[grip] == wanted) {
                    return grip;
                }
            }
            return 0;
        }

        boolean missesChord(Song song, int key, int i) {
            return holdOf(song.chordIn(key, i)) == 0;
        }

        boolean missesNote(Song song, int key, int i) {
            return lacksNote(song, key, i, holdOf(song.chordIn(key, i)));
        }

        boolean lacksNote(Song song, int key, int i, int grip) {
            int note = song.noteIn(key, i);
            return song.hasNote(i) && !(isTone(note) && (ofTone[note] & sounding[grip]) != 0);
        }

        int missedChords(Song song, int key) {
            int missing = 0;
            for (int i = 0; i < song.steps; i++) {
                if (missesChord(song, key, i)) {
                    missing++;
                }
            }
            return missing;
        }

        int missedNotes(Song song, int key) {
            int missing = 0;
            for (int i = 0; i < song.steps; i++) {
                if (missesNote(song, key, i)) {
                    missing++;
                }
            }
            return missing;
        }

        int missed(Song song, int key) {
            return missedChords(song, key) + missedNotes(song, key);
        }

        boolean canPlay(Song song) {
            for (int i = 0; i < song.steps; i++) {
                int grip = holdOf(song.chordIn(song.key, i));
                if (grip == 0 || lacksNote(song, song.key, i, grip)) {
                    return false;
                }
            }
            return true;
        }

        /** Keys are tried from 0 outwards, the one above first: so the first of equals is due. */
        int bestKeyOf(Song song) {
            int first = 0;
            for (int far = 1; far <= -LOWEST_KEY; far++) {
                if (far <= HIGHEST_KEY && missed(song, far) < missed(song, first)) {
                    first = far;
                }
                if (missed(song, -far) < missed(song, first)) {
                    first = -far;
                }
            }
            return first;
        }
    }

    /**
     * The offers. Chords are kept as bits of two numbers, low for 0 to 63, high for the rest: those
     * that a song needs, and those that two offers (or one, taken twice) would give.
     */
    private static final class Offers {
        private static final int LOW_CHORDS = 64;

        final int[] chords = new int[OFFERS];
        final long[] givenLow = new long[OFFERS * OFFERS];
        final long[] givenHigh = new long[OFFERS * OFFERS];
        final long[] neededLow = new long[SONGS];
        final long[] neededHigh = new long[SONGS];
        int songs = 0;
        int count = 0;

        boolean isFull() {
            return count >= OFFERS;
        }

        boolean isSet(int set) {
            return set >>> count == 0;
        }

        boolean hasChord(int chord) {
            for (int k = 0; k < count; k++) {
                if (chords[k] == chord) {
                    return true;
                }
            }
            return false;
        }

        int add(int chord) {
            int k = count;
            count++;
            chords[k] = chord;
            return k;
        }

        void lookAtSongs(Book book) {
            songs = book.count;
            for (int g = 0; g < songs; g++) {
                Song song = book.songs[g];
                neededLow[g] = 0L;
                neededHigh[g] = 0L;
                for (int i = 0; i < song.steps; i++) {
                    int chord = song.chordIn(song.key, i);
                    neededLow[g] |= lowBit(chord);
                    neededHigh[g] |= highBit(chord);
                }
            }
        }

        /** A bar of a chord lets its classes sound that strings have; two let what both do. */
        void lookAtClasses(int ofStrings) {
            for (int a = 0; a < count; a++) {
                for (int b = a; b < count; b++) {
                    int ofBoth = classesOf(chords[a]) & classesOf(chords[b]);
                    lookAtTwo(a * OFFERS + b, ofStrings & ofBoth);
                }
            }
        }

        private void lookAtTwo(int two, int sounding) {
            givenLow[two] = 0L;
            givenHigh[two] = 0L;
            for (int chord = 0; chord < CHORDS; chord++) {
                if (classesOf(chord) == sounding) {
                    givenLow[two] |= lowBit(chord);
                    givenHigh[two] |= highBit(chord);
                }
            }
        }

        private static long lowBit(int chord) {
            return chord < LOW_CHORDS ? 1L << chord : 0L;
        }

        private static long highBit(int chord) {
            return chord < LOW_CHORDS ? 0L : 1L << chord - LOW_CHORDS;
        }

        int servedBy(int set) {
            long low = 0L;
            long high = 0L;
            for (int a = 0; a < count; a++) {
                if (!hasBit(set, a)) {
                    continue;
                }
                for (int b = a; b < count; b++) {
                    if (hasBit(set, b)) {
                        low |= givenLow[a * OFFERS + b];
                        high |= givenHigh[a * OFFERS + b];
                    }
                }
            }
            return songsWithin(low, high);
        }

        /** The songs that need none but these chords. */
        private int songsWithin(long low, long high) {
            int found = 0;
            for (int g = 0; g < songs; g++) {
                if ((neededLow[g] & ~low) == 0 && (neededHigh[g] & ~high) == 0) {
                    found |= 1 << g;
                }
            }
            return found;
        }

        /** No set serves more than all offers do: the first one that serves as many is sought. */
        int mostServing(int m) {
            int all = (1 << count) - 1;
            int top = Integer.bitCount(servedBy(all));
            int most = 0;
            int answer = 0;
            for (int size = 1; size <= m && size <= count; size++) {
                for (int set = 1; set <= all && most < top; set++) {
                    if (Integer.bitCount(set) == size) {
                        int served = Integer.bitCount(servedBy(set));
                        answer = served > most ? set : answer;
                        most = Math.max(most, served);
                    }
                }
            }
            return answer;
        }
    }

    /** How hands go between bars, and how bars are put so that the way is least. */
    private static final class Frame {
        /** By two bars: how often hands go from one of them to the other. */
        final int[] moves = new int[BARS * BARS];
        /** By the set of bars put first: how often hands cross to the rest; then the way on. */
        final int[] ways = new int[1 << BARS];

        void countMoves(Book book, Grips grips) {
            Arrays.fill(moves, 0);
            for (int g = 0; g < book.count; g++) {
                Song song = book.songs[g];
                for (int i = 1; i < song.steps; i++) {
                    countMove(grips.holdOf(song.chordIn(song.key, i - 1)),
                            grips.holdOf(song.chordIn(song.key, i)), grips);
                }
            }
        }

        private void countMove(int fromGrip, int toGrip, Grips grips) {
            if (fromGrip != 0 && toGrip != 0) {
                int a = Integer.numberOfTrailingZeros(grips.sets[fromGrip]);
                int b = Integer.numberOfTrailingZeros(grips.sets[toGrip]);
                if (a < BARS && b < BARS && a != b) {
                    moves[a * BARS + b]++;
                    moves[b * BARS + a]++;
                }
            }
        }

        int wayOf(Rack rack) {
            int way = 0;
            for (int a = 0; a < rack.count; a++) {
                for (int b = a + 1; b < rack.count; b++) {
                    int far = Math.abs(rack.bars[a].place - rack.bars[b].place);
                    way += moves[a * BARS + b] * far;
                }
            }
            return way;
        }

        /**
         * The way is the sum, over all gaps between places, of how often hands cross the gap; and
         * that depends only on which bars stand ahead of it.
         */
        int leastWay(int bars) {
            int all = (1 << bars) - 1;
            ways[0] = 0;
            for (int set = 1; set <= all; set++) {
                int b = Integer.numberOfTrailingZeros(set);
                ways[set] = ways[set & set - 1] + crossingsBy(b, set, bars);
            }
            for (int set = all - 1; set >= 0; set--) {
                ways[set] += ways[set | 1 << nextBar(set, bars)];
            }
            return ways[0];
        }

        /** How many more crossings there are when b comes to the others of the set. */
        private int crossingsBy(int b, int set, int bars) {
            int more = 0;
            for (int other = 0; other < bars; other++) {
                int moved = moves[b * BARS + other];
                more += hasBit(set, other) ? -moved : moved;
            }
            return more;
        }

        /** The first bar of those that are best put behind a set; the set is not all bars. */
        private int nextBar(int set, int bars) {
            int next = NONE;
            for (int b = 0; b < bars; b++) {
                if (!hasBit(set, b) && (next < 0 || ways[set | 1 << b] < ways[set | 1 << next])) {
                    next = b;
                }
            }
            return Math.max(next, 0);
        }

        /** Puts the bars as the latest leastWay() found: how many have another place now. */
        int putInOrder(Rack rack) {
            int others = 0;
            int set = 0;
            for (int place = 0; place < rack.count; place++) {
                int b = nextBar(set, rack.count);
                if (rack.bars[b].place != place) {
                    rack.bars[b].place = place;
                    others++;
                }
                set |= 1 << b;
            }
            return others;
        }
    }

    /** Plays a song with the least trouble. */
    private static final class Player {
        private static final int FOR_A_BAR = 2;

        /** By step and grip: the least trouble from that step on, if that grip is pressed in it. */
        final int[] fromHere = new int[STEPS * GRIPS];
        /** By grip: the least trouble of all steps behind the one in which it is pressed. */
        final int[] behind = new int[GRIPS];

        void plan(Song song, Grips grips) {
            Arrays.fill(behind, 0);
            for (int i = song.steps - 1; i >= 0; i--) {
                for (int grip = 0; grip < grips.count; grip++) {
                    behind[grip] += troubleOf(song, i, grip, grips);
                    fromHere[i * GRIPS + grip] = behind[grip];
                }
                letBarsChange(grips);
            }
        }

        private static int troubleOf(Song song, int i, int grip, Grips grips) {
            int wrong = grips.classBits[grip] ^ classesOf(song.chordIn(song.key, i));
            int note = grips.lacksNote(song, song.key, i, grip) ? 30 : 0;
            return 10 * Integer.bitCount(wrong) + note;
        }

        /**
         * Makes what a step costs from each grip on what it costs behind each grip. Bars are lifted
         * first, then pressed, one by one: so there are never more than two, and it is enough to
         * look at grips that are one bar apart.
         */
        private void letBarsChange(Grips grips) {
            for (int grip = grips.count - 1; grip > 0; grip--) {
                int set = grips.sets[grip];
                ease(Grips.gripOf(set & set - 1), grip);
                ease(Grips.gripOf(set ^ Integer.highestOneBit(set)), grip);
            }
            for (int grip = 1; grip < grips.count; grip++) {
                int set = grips.sets[grip];
                ease(grip, Grips.gripOf(set & set - 1));
                ease(grip, Grips.gripOf(set ^ Integer.highestOneBit(set)));
            }
        }

        private void ease(int grip, int oneBarApart) {
            behind[grip] = Math.min(behind[grip], behind[oneBarApart] + FOR_A_BAR);
        }

        int leastTrouble(Grips grips) {
            return fromHere[firstBest(0, 0, grips)];
        }

        /** The set pressed in step i of the song that was planned, in the first least way. */
        int setAt(int i, Grips grips) {
            int set = 0;
            for (int k = 0; k <= i && k < STEPS; k++) {
                set = grips.sets[firstBest(k, set, grips)];
            }
            return set;
        }

        /** The first of the best grips for step i, if a set was pressed in the step ahead. */
        private int firstBest(int i, int ahead, Grips grips) {
            int first = 0;
            int least = troubleFrom(i, ahead, 0, grips);
            for (int grip = 1; grip < grips.count; grip++) {
                int trouble = troubleFrom(i, ahead, grip, grips);
                if (trouble < least) {
                    first = grip;
                    least = trouble;
                }
            }
            return first;
        }

        private int troubleFrom(int i, int ahead, int grip, Grips grips) {
            int changed = i == 0 ? 0 : Integer.bitCount(ahead ^ grips.sets[grip]);
            return FOR_A_BAR * changed + fromHere[i * GRIPS + grip];
        }
    }

    /** Rows heard, and which felts they show to be worn. */
    private static final class Ear {
        final int[] pressed = new int[ROWS];
        /** By row: the strings that did not sound, and those that did, as bits. */
        final long[] silent = new long[ROWS];
        final long[] sounding = new long[ROWS];
        /** By bar: the strings on which its felt is taken to be worn. */
        final long[] taken = new long[BARS];
        int count = 0;

        boolean isFull() {
            return count >= ROWS;
        }

        void clear() {
            count = 0;
        }

        int add(int set, Sheet from, int i, int n) {
            int row = count;
            count++;
            pressed[row] = set;
            silent[row] = from.bitsWhere(0, i, n);
            sounding[row] = from.bitsWhere(1, i, n);
            return row;
        }

        /** A string that sounded had only worn felts on it; no other felt must be worn. */
        void findWorn(Rack rack) {
            for (int b = 0; b < BARS; b++) {
                taken[b] = 0L;
                for (int row = 0; row < count; row++) {
                    if (hasBit(pressed[row], b)) {
                        taken[b] |= rack.bars[b].felts & sounding[row];
                    }
                }
            }
        }

        int howManyWorn() {
            int many = 0;
            for (int b = 0; b < BARS; b++) {
                many += Long.bitCount(taken[b]);
            }
            return many;
        }

        boolean takesAsWorn(int b, int s) {
            return hasBit(taken[b], s);
        }

        void takeAsWorn(int b, int s) {
            taken[b] |= 1L << s;
        }

        /** Whether what is taken as worn, all that findWorn() took among it, explains all rows. */
        boolean explains(Rack rack) {
            for (int row = 0; row < count; row++) {
                long hushed = 0L;
                for (int b = 0; b < BARS; b++) {
                    if (hasBit(pressed[row], b)) {
                        hushed |= rack.bars[b].felts & ~taken[b];
                    }
                }
                if ((silent[row] & ~hushed) != 0) {
                    return false;
                }
            }
            return true;
        }
    }

    /** A row of cells of a lane, or nothing. What cells hold is cut to the lane already. */
    private static final class Sheet {
        private static final int NOTHING = -1;

        final int[] cells = new int[CELLS];
        int lane = NOTHING;
        int length = 0;

        boolean isNothing() {
            return lane == NOTHING;
        }

        /** Gives the sheet n cells of a lane; n is 0 to 64. */
        void begin(int newLane, int n) {
            lane = newLane;
            length = n;
            Arrays.fill(cells, 0);
        }

        /** Whether there was something to lose. */
        boolean drop() {
            boolean had = !isNothing();
            lane = NOTHING;
            length = 0;
            return had;
        }

        int faultAs(int wantedLane) {
            if (isNothing()) {
                return NULL;
            }
            return lane == wantedLane ? 0 : CAST;
        }

        boolean hasCell(int i) {
            return i >= 0 && i < length;
        }

        /** Whether n cells from i on are there; for none, too, i is a cell or the end. */
        boolean hasCells(int i, long n) {
            return i >= 0 && i <= length && n <= length - i;
        }

        void write(int i, int v) {
            if (lane == 0) {
                cells[i] = (byte) v;
            } else if (lane == 1) {
                cells[i] = (short) v;
            } else {
                cells[i] = v;
            }
        }

        /** Which of the n cells from i on hold a value, as bits; the cells must be there. */
        long bitsWhere(int value, int i, int n) {
            long found = 0L;
            for (int k = 0; k < n; k++) {
                if (cells[i + k] == value) {
                    found |= 1L << k;
                }
            }
            return found;
        }
    }
}

import java.util.ArrayList;
import java.util.HashSet;
import java.util.List;
import java.util.Set;
import java.util.TreeSet;

/**
 * The document once more, word for word and as slowly as it comes: lists and sets instead of bits,
 * and every way tried, where the document says "of all". Only for small instruments.
 */
final class PlainZither {
    static final int UNKNOWN = -1;
    static final int OUTSIDE = -2;
    static final int STATE = -3;
    static final int FULL = -4;
    static final int NONE = -9;
    static final long LOST = Long.MIN_VALUE;

    private static final int[][] SORTS = {
        {0, 4, 7}, {0, 3, 7}, {0, 4, 7, 10}, {0, 3, 7, 10}, {0, 3, 6}, {0, 5, 7}, {0, 4, 7, 11}, {0, 4, 8}
    };

    static final class Bar {
        int chord = NONE;
        int place;
        /** Strings with a felt; true: worn. */
        final java.util.TreeMap<Integer, Boolean> felts = new java.util.TreeMap<>();
    }

    static final class Song {
        final List<int[]> steps = new ArrayList<>();
        int key = 0;
    }

    static final class Row {
        Set<Integer> pressed;
        List<Integer> told;
    }

    /** A way of playing: what it costs and its grips. */
    private static final class Way {
        int trouble;
        List<Integer> grips = new ArrayList<>();
    }

    private final List<Integer> tones = new ArrayList<>();
    private final List<Boolean> free = new ArrayList<>();
    private List<Bar> bars = new ArrayList<>();
    private final List<Song> songs = new ArrayList<>();
    private final List<Integer> offers = new ArrayList<>();
    private final List<Row> rows = new ArrayList<>();
    private final Object[] sheets = new Object[4];
    private int trace = 0;
    private int fault = 0;

    // ---- helpers

    private boolean isString(int s) {
        return 0 <= s && s < tones.size();
    }

    private boolean isBar(int b) {
        return 0 <= b && b < bars.size();
    }

    private boolean isSong(int g) {
        return 0 <= g && g < songs.size();
    }

    private static boolean isChord(int chord) {
        return 0 <= chord && chord <= 95;
    }

    private static boolean isTone(int tone) {
        return 0 <= tone && tone <= 60;
    }

    /** The members of a set told as bits, or null: one of them is none's. */
    private static Set<Integer> members(int bits, int size) {
        Set<Integer> found = new TreeSet<>();
        for (int k = 0; k < 32; k++) {
            if ((bits & 1 << k) != 0) {
                if (k >= size) {
                    return null;
                }
                found.add(k);
            }
        }
        return found;
    }

    private static int bits(Set<Integer> members) {
        int sum = 0;
        for (int k : members) {
            sum += 1 << k;
        }
        return sum;
    }

    private static Set<Integer> classesOfChord(int chord) {
        Set<Integer> found = new TreeSet<>();
        for (int above : SORTS[chord / 12]) {
            found.add((chord % 12 + above) % 12);
        }
        return found;
    }

    private static boolean sounds(List<Bar> pressed, int s) {
        for (Bar bar : pressed) {
            if (bar.felts.containsKey(s) && !bar.felts.get(s)) {
                return false;
            }
        }
        return true;
    }

    private List<Bar> pick(Set<Integer> set) {
        List<Bar> found = new ArrayList<>();
        for (int b : set) {
            found.add(bars.get(b));
        }
        return found;
    }

    private Set<Integer> classesOf(List<Bar> pressed) {
        Set<Integer> found = new TreeSet<>();
        for (int s = 0; s < tones.size(); s++) {
            if (!free.get(s) && sounds(pressed, s)) {
                found.add(tones.get(s) % 12);
            }
        }
        return found;
    }

    /** The hold of a chord, or null. */
    private Set<Integer> holdOf(int chord) {
        for (int a = 0; a < bars.size(); a++) {
            if (classesOf(pick(Set.of(a))).equals(classesOfChord(chord))) {
                return new TreeSet<>(Set.of(a));
            }
        }
        for (int a = 0; a < bars.size(); a++) {
            for (int b = a + 1; b < bars.size(); b++) {
                if (classesOf(pick(Set.of(a, b))).equals(classesOfChord(chord))) {
                    return new TreeSet<>(Set.of(a, b));
                }
            }
        }
        return null;
    }

    private boolean toneSounds(int tone, Set<Integer> pressed) {
        for (int s = 0; s < tones.size(); s++) {
            if (tones.get(s) == tone && sounds(pick(pressed), s)) {
                return true;
            }
        }
        return false;
    }

    private static int chordOf(Song song, int i) {
        int chord = song.steps.get(i)[0];
        int root = chord % 12 + song.key;
        while (root < 0) {
            root += 12;
        }
        return chord / 12 * 12 + root % 12;
    }

    private static boolean hasNote(Song song, int i) {
        return song.steps.get(i)[1] != -1;
    }

    private static int noteOf(Song song, int i) {
        return song.steps.get(i)[1] + song.key;
    }

    private boolean missesChord(Song song, int i) {
        return holdOf(chordOf(song, i)) == null;
    }

    private boolean missesNote(Song song, int i) {
        Set<Integer> hold = holdOf(chordOf(song, i));
        return hasNote(song, i) && !toneSounds(noteOf(song, i), hold == null ? Set.of() : hold);
    }

    private int missedChords(Song song) {
        int sum = 0;
        for (int i = 0; i < song.steps.size(); i++) {
            sum += missesChord(song, i) ? 1 : 0;
        }
        return sum;
    }

    private int missedNotes(Song song) {
        int sum = 0;
        for (int i = 0; i < song.steps.size(); i++) {
            sum += missesNote(song, i) ? 1 : 0;
        }
        return sum;
    }

    private Bar cut(int chord) {
        Bar bar = new Bar();
        bar.chord = chord;
        for (int s = 0; s < tones.size(); s++) {
            if (!free.get(s) && !classesOfChord(chord).contains(tones.get(s) % 12)) {
                bar.felts.put(s, false);
            }
        }
        return bar;
    }

    private static int kind(Bar bar) {
        if (bar.chord == NONE) {
            return 0;
        }
        int sort = bar.chord / 12;
        return sort == 2 || sort == 3 || sort == 6 ? 2 : 1;
    }

    private int failed(int met) {
        fault = met;
        return -10 - met;
    }

    private static int lane(Object row) {
        return row instanceof byte[] ? 0 : row instanceof short[] ? 1 : 2;
    }

    private static int length(Object row) {
        return java.lang.reflect.Array.getLength(row);
    }

    private static int cell(Object row, int i) {
        return ((Number) java.lang.reflect.Array.get(row, i)).intValue();
    }

    // ---- 1

    int string(int tone, boolean isFree) {
        if (!isTone(tone)) {
            return OUTSIDE;
        }
        if (tones.size() == 36) {
            return FULL;
        }
        tones.add(tone);
        free.add(isFree);
        return tones.size() - 1;
    }

    int tune(int s, int tone) {
        if (!isString(s)) {
            return UNKNOWN;
        }
        return isTone(tone) ? tones.set(s, tone) : OUTSIDE;
    }

    private int add(Bar bar) {
        bar.place = bars.size();
        bars.add(bar);
        return bar.place;
    }

    int bar(int chord) {
        if (!isChord(chord)) {
            return OUTSIDE;
        }
        return bars.size() == 12 ? FULL : add(cut(chord));
    }

    int blank() {
        return bars.size() == 12 ? FULL : add(new Bar());
    }

    int felt(int b, int s, boolean is) {
        if (!isBar(b) || !isString(s)) {
            return UNKNOWN;
        }
        if (free.get(s)) {
            return STATE;
        }
        if (bars.get(b).felts.containsKey(s) == is) {
            return 0;
        }
        if (is) {
            bars.get(b).felts.put(s, false);
        } else {
            bars.get(b).felts.remove(s);
        }
        return 1;
    }

    int wear(int b, int s, boolean is) {
        if (!isBar(b) || !isString(s) || !bars.get(b).felts.containsKey(s)) {
            return UNKNOWN;
        }
        return bars.get(b).felts.put(s, is) == is ? 0 : 1;
    }

    int ofString(int s, int what) {
        if (!isString(s)) {
            return UNKNOWN;
        }
        if (what == 0) {
            return tones.get(s);
        }
        if (what == 1) {
            return free.get(s) ? 1 : 0;
        }
        if (what == 2) {
            return tones.get(s) % 12;
        }
        if (what != 3) {
            return OUTSIDE;
        }
        int sum = 0;
        for (Bar bar : bars) {
            sum += Boolean.FALSE.equals(bar.felts.get(s)) ? 1 : 0;
        }
        return sum;
    }

    int ofBar(int b, int what) {
        if (!isBar(b)) {
            return UNKNOWN;
        }
        Bar bar = bars.get(b);
        if (what == 0) {
            return kind(bar);
        }
        if (what == 1) {
            return bar.chord;
        }
        if (what == 2) {
            return bar.felts.size();
        }
        if (what == 3) {
            return (int) bar.felts.values().stream().filter(worn -> worn).count();
        }
        if (what == 4) {
            return bits(classesOf(List.of(bar)));
        }
        return what == 5 ? bar.place : OUTSIDE;
    }

    int has(int b, int s) {
        if (!isBar(b) || !isString(s)) {
            return UNKNOWN;
        }
        Boolean worn = bars.get(b).felts.get(s);
        return worn == null ? 0 : worn ? 1 : 2;
    }

    int sounds(int set, int s) {
        if (!isString(s)) {
            return UNKNOWN;
        }
        Set<Integer> pressed = members(set, bars.size());
        if (pressed == null) {
            return OUTSIDE;
        }
        return sounds(pick(pressed), s) ? 1 : 0;
    }

    int classes(int set) {
        Set<Integer> pressed = members(set, bars.size());
        return pressed == null ? OUTSIDE : bits(classesOf(pick(pressed)));
    }

    int chord(int chord) {
        return isChord(chord) ? bits(classesOfChord(chord)) : OUTSIDE;
    }

    int gives(int set, int chord) {
        Set<Integer> pressed = members(set, bars.size());
        if (pressed == null || !isChord(chord)) {
            return OUTSIDE;
        }
        return classesOf(pick(pressed)).equals(classesOfChord(chord)) ? 1 : 0;
    }

    int lack(int chord) {
        if (!isChord(chord)) {
            return OUTSIDE;
        }
        Set<Integer> missing = classesOfChord(chord);
        missing.removeAll(classesOf(List.of()));
        return bits(missing);
    }

    int hold(int chord) {
        if (!isChord(chord)) {
            return OUTSIDE;
        }
        Set<Integer> hold = holdOf(chord);
        return hold == null ? NONE : bits(hold);
    }

    int holds(int n) {
        if (n < 0 || n > 2) {
            return OUTSIDE;
        }
        int sum = 0;
        for (int chord = 0; chord < 96; chord++) {
            Set<Integer> hold = holdOf(chord);
            sum += (hold == null ? 0 : hold.size()) == n ? 1 : 0;
        }
        return sum;
    }

    int strum(int set, int what) {
        Set<Integer> pressed = members(set, bars.size());
        if (pressed == null || what < 0 || what > 3) {
            return OUTSIDE;
        }
        List<Integer> found = new ArrayList<>();
        for (int s = 0; s < tones.size(); s++) {
            if (sounds(pick(pressed), s)) {
                found.add(tones.get(s));
            }
        }
        found.sort(null);
        if (what == 0) {
            return found.size();
        }
        if (what == 1) {
            return found.isEmpty() ? NONE : found.get(0);
        }
        if (what == 2) {
            return found.isEmpty() ? NONE : found.get(found.size() - 1);
        }
        int greatest = 0;
        for (int k = 1; k < found.size(); k++) {
            greatest = Math.max(greatest, found.get(k) - found.get(k - 1));
        }
        return greatest;
    }

    // ---- 2

    int song(int sheet, int lane, int i, int n) {
        fault = 0;
        if (sheet < 0 || sheet > 3) {
            return UNKNOWN;
        }
        if (lane < 0 || lane > 2) {
            return OUTSIDE;
        }
        Object row = sheets[sheet];
        if (row != null && lane(row) != lane) {
            return failed(2);
        }
        if (row == null) {
            return failed(1);
        }
        if (n < 0) {
            return failed(4);
        }
        if (i < 0 || i > length(row) || (long) i + 2L * n > length(row)) {
            return failed(3);
        }
        if (n < 1 || n > 24) {
            return OUTSIDE;
        }
        Song song = new Song();
        for (int k = 0; k < n; k++) {
            int chord = cell(row, i + 2 * k);
            int note = cell(row, i + 2 * k + 1);
            if (!isChord(chord) || note < -1 || note > 60) {
                return OUTSIDE;
            }
            song.steps.add(new int[] {chord, note});
        }
        if (songs.size() == 8) {
            return FULL;
        }
        songs.add(song);
        return songs.size() - 1;
    }

    private boolean isStep(int g, int i) {
        return isSong(g) && 0 <= i && i < songs.get(g).steps.size();
    }

    int step(int g, int i, int what) {
        if (!isStep(g, i)) {
            return UNKNOWN;
        }
        Song song = songs.get(g);
        if (what == 0) {
            return chordOf(song, i);
        }
        if (what == 1) {
            return hasNote(song, i) ? noteOf(song, i) : NONE;
        }
        if (what == 2) {
            return missesChord(song, i) ? 1 : 0;
        }
        if (what == 3) {
            return missesNote(song, i) ? 1 : 0;
        }
        return OUTSIDE;
    }

    int key(int g, int t) {
        if (!isSong(g)) {
            return UNKNOWN;
        }
        if (t < -6 || t > 5) {
            return OUTSIDE;
        }
        int was = songs.get(g).key;
        songs.get(g).key = t;
        return was;
    }

    int misses(int g, int what) {
        if (!isSong(g)) {
            return UNKNOWN;
        }
        Song song = songs.get(g);
        if (what == 0) {
            return missedChords(song);
        }
        if (what == 1) {
            return missedNotes(song);
        }
        if (what == 2) {
            return missedChords(song) + missedNotes(song);
        }
        if (what == 3) {
            return song.steps.size();
        }
        return what == 4 ? song.key : OUTSIDE;
    }

    int bestKey(int g) {
        if (!isSong(g)) {
            return 99;
        }
        Song song = songs.get(g);
        int was = song.key;
        int best = 99;
        int fewest = 0;
        for (int t = -6; t <= 5; t++) {
            song.key = t;
            int missed = missedChords(song) + missedNotes(song);
            boolean nearer = Math.abs(t) < Math.abs(best) || Math.abs(t) == Math.abs(best) && t > 0;
            if (best == 99 || missed < fewest || missed == fewest && nearer) {
                best = t;
                fewest = missed;
            }
        }
        song.key = was;
        return best;
    }

    private Set<Integer> playableSongs() {
        Set<Integer> found = new TreeSet<>();
        for (int g = 0; g < songs.size(); g++) {
            if (missedChords(songs.get(g)) + missedNotes(songs.get(g)) == 0) {
                found.add(g);
            }
        }
        return found;
    }

    int playable() {
        return bits(playableSongs());
    }

    // ---- 3

    int offer(int chord) {
        if (!isChord(chord)) {
            return OUTSIDE;
        }
        if (offers.contains(chord)) {
            return STATE;
        }
        if (offers.size() == 12) {
            return FULL;
        }
        offers.add(chord);
        return offers.size() - 1;
    }

    private boolean gives(List<Bar> cut, int chord) {
        for (Bar one : cut) {
            for (Bar other : cut) {
                if (classesOf(List.of(one, other)).equals(classesOfChord(chord))) {
                    return true;
                }
            }
        }
        return false;
    }

    private Set<Integer> servedBy(Set<Integer> set) {
        List<Bar> cut = new ArrayList<>();
        for (int k : set) {
            cut.add(cut(offers.get(k)));
        }
        Set<Integer> found = new TreeSet<>();
        for (int g = 0; g < songs.size(); g++) {
            boolean all = true;
            for (int i = 0; i < songs.get(g).steps.size() && all; i++) {
                all = gives(cut, chordOf(songs.get(g), i));
            }
            if (all) {
                found.add(g);
            }
        }
        return found;
    }

    int serves(int set) {
        Set<Integer> chosen = members(set, offers.size());
        return chosen == null ? OUTSIDE : bits(servedBy(chosen));
    }

    int fewest() {
        int best = NONE;
        for (int set = 0; set < 1 << offers.size(); set++) {
            Set<Integer> chosen = members(set, offers.size());
            if (servedBy(chosen).size() == songs.size()
                    && (best == NONE || chosen.size() < members(best, 12).size())) {
                best = set;
            }
        }
        return best;
    }

    int most(int m) {
        if (m < 0 || m > 12) {
            return OUTSIDE;
        }
        int best = 0;
        int served = servedBy(Set.of()).size();
        for (int set = 1; set < 1 << offers.size(); set++) {
            Set<Integer> chosen = members(set, offers.size());
            if (chosen.size() > m) {
                continue;
            }
            int now = servedBy(chosen).size();
            if (now > served || now == served && chosen.size() < members(best, 12).size()) {
                best = set;
                served = now;
            }
        }
        return best;
    }

    int build(int set) {
        Set<Integer> chosen = members(set, offers.size());
        if (chosen == null) {
            return OUTSIDE;
        }
        bars = new ArrayList<>();
        rows.clear();
        for (int k : chosen) {
            add(cut(offers.get(k)));
        }
        return bars.size();
    }

    // ---- 4

    int change(int a, int b) {
        if (!isBar(a) || !isBar(b)) {
            return UNKNOWN;
        }
        int place = bars.get(a).place;
        bars.get(a).place = bars.get(b).place;
        bars.get(b).place = place;
        return a == b ? 0 : 1;
    }

    /** Of all songs: pairs of least bars, one behind the other. */
    private List<int[]> moves() {
        List<int[]> found = new ArrayList<>();
        for (Song song : songs) {
            for (int i = 1; i < song.steps.size(); i++) {
                Set<Integer> ahead = holdOf(chordOf(song, i - 1));
                Set<Integer> now = holdOf(chordOf(song, i));
                if (ahead != null && now != null) {
                    found.add(new int[] {ahead.iterator().next(), now.iterator().next()});
                }
            }
        }
        return found;
    }

    private static int wayOf(List<int[]> moves, int[] places) {
        int sum = 0;
        for (int[] move : moves) {
            sum += Math.abs(places[move[0]] - places[move[1]]);
        }
        return sum;
    }

    int way() {
        int[] places = new int[bars.size()];
        for (int b = 0; b < places.length; b++) {
            places[b] = bars.get(b).place;
        }
        return wayOf(moves(), places);
    }

    /** All rows of bars by places, the first ones first; keeps the first with the least way. */
    private void tryRows(List<Integer> row, List<int[]> moves, List<Integer> bestRow, int[] bestWay) {
        if (row.size() == bars.size()) {
            int[] places = new int[bars.size()];
            for (int place = 0; place < row.size(); place++) {
                places[row.get(place)] = place;
            }
            int way = wayOf(moves, places);
            if (way < bestWay[0]) {
                bestWay[0] = way;
                bestRow.clear();
                bestRow.addAll(row);
            }
            return;
        }
        for (int b = 0; b < bars.size(); b++) {
            if (!row.contains(b)) {
                row.add(b);
                tryRows(row, moves, bestRow, bestWay);
                row.remove(row.size() - 1);
            }
        }
    }

    private int bestRow(List<Integer> bestRow) {
        int[] bestWay = {Integer.MAX_VALUE};
        tryRows(new ArrayList<>(), moves(), bestRow, bestWay);
        return bestWay[0];
    }

    int least() {
        return bestRow(new ArrayList<>());
    }

    int arrange() {
        List<Integer> row = new ArrayList<>();
        bestRow(row);
        int others = 0;
        for (int place = 0; place < row.size(); place++) {
            Bar bar = bars.get(row.get(place));
            others += bar.place == place ? 0 : 1;
            bar.place = place;
        }
        return others;
    }

    private List<Set<Integer>> grips() {
        List<Set<Integer>> found = new ArrayList<>();
        found.add(Set.of());
        for (int a = 0; a < bars.size(); a++) {
            found.add(Set.of(a));
        }
        for (int a = 0; a < bars.size(); a++) {
            for (int b = a + 1; b < bars.size(); b++) {
                found.add(Set.of(a, b));
            }
        }
        return found;
    }

    private int troubleOf(Song song, int i, Set<Integer> pressed) {
        int sum = 0;
        Set<Integer> sounding = classesOf(pick(pressed));
        Set<Integer> wanted = classesOfChord(chordOf(song, i));
        for (int k = 0; k < 12; k++) {
            sum += sounding.contains(k) != wanted.contains(k) ? 10 : 0;
        }
        return sum + (hasNote(song, i) && !toneSounds(noteOf(song, i), pressed) ? 30 : 0);
    }

    private static int changed(Set<Integer> ahead, Set<Integer> now) {
        Set<Integer> both = new HashSet<>(ahead);
        both.retainAll(now);
        return ahead.size() + now.size() - 2 * both.size();
    }

    private static boolean isAhead(List<Integer> one, List<Integer> other) {
        for (int k = 0; k < one.size(); k++) {
            if (!one.get(k).equals(other.get(k))) {
                return one.get(k) < other.get(k);
            }
        }
        return false;
    }

    private static boolean isBetter(Way one, Way other) {
        return other == null || one.trouble < other.trouble
                || one.trouble == other.trouble && isAhead(one.grips, other.grips);
    }

    /** From the first step on, for each last grip, the first of the least ways as a whole row. */
    private Way bestWay(Song song) {
        List<Set<Integer>> grips = grips();
        List<Way> ways = new ArrayList<>();
        for (int i = 0; i < song.steps.size(); i++) {
            List<Way> longer = new ArrayList<>();
            for (int grip = 0; grip < grips.size(); grip++) {
                Way best = null;
                for (int ahead = 0; ahead < (i == 0 ? 1 : grips.size()); ahead++) {
                    Way way = new Way();
                    way.trouble = troubleOf(song, i, grips.get(grip));
                    if (i > 0) {
                        way.trouble += ways.get(ahead).trouble
                                + 2 * changed(grips.get(ahead), grips.get(grip));
                        way.grips.addAll(ways.get(ahead).grips);
                    }
                    way.grips.add(grip);
                    best = isBetter(way, best) ? way : best;
                }
                longer.add(best);
            }
            ways = longer;
        }
        Way best = null;
        for (Way way : ways) {
            best = isBetter(way, best) ? way : best;
        }
        return best;
    }

    int trouble(int g) {
        return isSong(g) ? bestWay(songs.get(g)).trouble : UNKNOWN;
    }

    int grip(int g, int i) {
        return isStep(g, i) ? bits(grips().get(bestWay(songs.get(g)).grips.get(i))) : UNKNOWN;
    }

    // ---- 5

    int heard(int set, int sheet, int lane, int i) {
        fault = 0;
        if (sheet < 0 || sheet > 3) {
            return UNKNOWN;
        }
        Set<Integer> pressed = members(set, bars.size());
        if (pressed == null || lane < 0 || lane > 2) {
            return OUTSIDE;
        }
        Object row = sheets[sheet];
        if (row != null && lane(row) != lane) {
            return failed(2);
        }
        if (row == null) {
            return failed(1);
        }
        if (i < 0 || i > length(row) || (long) i + tones.size() > length(row)) {
            return failed(3);
        }
        Row heard = new Row();
        heard.pressed = pressed;
        heard.told = new ArrayList<>();
        for (int s = 0; s < tones.size(); s++) {
            int told = cell(row, i + s);
            if (told < 0 || told > 2) {
                return OUTSIDE;
            }
            heard.told.add(told);
        }
        if (rows.size() == 20) {
            return FULL;
        }
        rows.add(heard);
        return rows.size() - 1;
    }

    private List<int[]> allFelts() {
        List<int[]> found = new ArrayList<>();
        for (int b = 0; b < bars.size(); b++) {
            for (int s : bars.get(b).felts.keySet()) {
                found.add(new int[] {b, s});
            }
        }
        return found;
    }

    int howManyFelts() {
        return allFelts().size();
    }

    private boolean explains(List<int[]> felts, long worn) {
        for (Row row : rows) {
            for (int s = 0; s < row.told.size(); s++) {
                boolean sounds = true;
                for (int k = 0; k < felts.size(); k++) {
                    int[] felt = felts.get(k);
                    if (felt[1] == s && row.pressed.contains(felt[0]) && (worn >> k & 1) == 0) {
                        sounds = false;
                    }
                }
                if (row.told.get(s) != 2 && row.told.get(s) == 1 != sounds) {
                    return false;
                }
            }
        }
        return true;
    }

    private List<Long> explanations() {
        List<int[]> felts = allFelts();
        List<Long> found = new ArrayList<>();
        for (long worn = 0; worn < 1L << felts.size(); worn++) {
            if (explains(felts, worn)) {
                found.add(worn);
            }
        }
        return found;
    }

    int worn() {
        int fewest = NONE;
        for (long worn : explanations()) {
            int many = Long.bitCount(worn);
            fewest = fewest == NONE ? many : Math.min(fewest, many);
        }
        return fewest;
    }

    int sure(int b, int s) {
        if (!isBar(b) || !isString(s) || !bars.get(b).felts.containsKey(s)) {
            return UNKNOWN;
        }
        List<int[]> felts = allFelts();
        int at = 0;
        while (felts.get(at)[0] != b || felts.get(at)[1] != s) {
            at++;
        }
        boolean with = false;
        boolean without = false;
        for (long worn : explanations()) {
            with |= (worn >> at & 1) == 1;
            without |= (worn >> at & 1) == 0;
        }
        if (!with && !without) {
            return STATE;
        }
        return with && without ? 2 : with ? 1 : 0;
    }

    int unhear() {
        int were = rows.size();
        rows.clear();
        return were;
    }

    // ---- 6

    private int songsWith(int s, int d) {
        int tone = tones.get(s);
        tones.set(s, tone + d);
        int found = playableSongs().size();
        tones.set(s, tone);
        return found;
    }

    int otherwise(int s, int d) {
        if (!isString(s)) {
            return UNKNOWN;
        }
        if (!List.of(-2, -1, 1, 2).contains(d) || !isTone(tones.get(s) + d)) {
            return OUTSIDE;
        }
        return songsWith(s, d);
    }

    int best(int what) {
        if (what < 0 || what > 2) {
            return 99;
        }
        int[] best = {NONE, 0, NONE};
        int top = playableSongs().size();
        for (int s = 0; s < tones.size(); s++) {
            for (int d : List.of(-2, -1, 1, 2)) {
                if (isTone(tones.get(s) + d) && songsWith(s, d) > top) {
                    top = songsWith(s, d);
                    best = new int[] {s, d, top};
                }
            }
        }
        return best[what];
    }

    // ---- sheets, parts

    int sheet(int k, int lane, int n) {
        fault = 0;
        if (k < 0 || k > 3) {
            return UNKNOWN;
        }
        if (lane < 0 || lane > 2 || n > 64) {
            return OUTSIDE;
        }
        if (n < 0) {
            return failed(4);
        }
        sheets[k] = lane == 0 ? new byte[n] : lane == 1 ? new short[n] : new int[n];
        return 1;
    }

    int lose(int k) {
        if (k < 0 || k > 3) {
            return UNKNOWN;
        }
        int had = sheets[k] == null ? 0 : 1;
        sheets[k] = null;
        return had;
    }

    int put(int k, int i, int v) {
        fault = 0;
        if (k < 0 || k > 3) {
            return UNKNOWN;
        }
        if (sheets[k] == null) {
            return failed(1);
        }
        if (i < 0 || i >= length(sheets[k])) {
            return failed(3);
        }
        if (sheets[k] instanceof byte[] row) {
            row[i] = (byte) v;
        } else if (sheets[k] instanceof short[] row) {
            row[i] = (short) v;
        } else if (sheets[k] instanceof int[] row) {
            row[i] = v;
        }
        return 1;
    }

    long at(int k, int i, int lane) {
        fault = 0;
        if (k < 0 || k > 3 || lane < 0 || lane > 2) {
            return LOST;
        }
        if (sheets[k] == null) {
            fault = 1;
        } else if (lane(sheets[k]) != lane) {
            fault = 2;
        } else if (i < 0 || i >= length(sheets[k])) {
            fault = 3;
        }
        return fault != 0 ? LOST : cell(sheets[k], i);
    }

    private void leave(int... bodies) {
        for (int body : bodies) {
            trace = trace * 31 + body;
        }
    }

    int tell(int b) {
        if (!isBar(b)) {
            return UNKNOWN;
        }
        Bar bar = bars.get(b);
        int felts = bar.felts.size();
        if (kind(bar) == 0) {
            leave(1);
            return felts;
        }
        if (kind(bar) == 1) {
            leave(2, 1);
            return felts + bar.chord;
        }
        leave(3, 2, 1, 1);
        return felts + bar.chord + felts;
    }

    int name(int b) {
        if (!isBar(b)) {
            return UNKNOWN;
        }
        boolean seventh = kind(bars.get(b)) == 2;
        leave(seventh ? 5 : 4);
        return seventh ? 77 : b + 10;
    }

    int as(int b, int kind) {
        fault = 0;
        if (!isBar(b)) {
            return UNKNOWN;
        }
        if (kind < 0 || kind > 2) {
            return OUTSIDE;
        }
        return kind(bars.get(b)) >= kind ? 1 : failed(2);
    }

    int trace() {
        return trace;
    }

    int fault() {
        return fault;
    }

    int told(int what) {
        return switch (what) {
            case 0 -> tones.size();
            case 1 -> (int) free.stream().filter(is -> is).count();
            case 2 -> bars.size();
            case 3 -> songs.size();
            case 4 -> offers.size();
            case 5 -> rows.size();
            case 6 -> classesOf(List.of()).size();
            default -> OUTSIDE;
        };
    }
}

import java.util.LinkedHashMap;
import java.util.Map;
import java.util.TreeMap;
import java.util.function.ToLongFunction;

/** A call changes what the document tells of it, and nothing else; one that asks changes nothing. */
public final class ChangesTest extends Bench {
    private static final int CALLS = 512;

    /** Songs in their own keys, so that offers serve them. */
    private static final Recipe RECIPE = Recipe.small().and(x -> x.key(0, 0)).and(x -> x.key(1, 0));

    /** What tells the state, by name; each asks for one number and changes nothing. */
    private static final Map<String, ToLongFunction<FeltZither>> STATE_OF = new LinkedHashMap<>();

    public static void main(String[] args) {
        askForAll();
        int calls = RECIPE.size() + 2 * STATE_OF.size() + 1;
        CHECK.holds(calls + " calls are no more than an object is used for", calls <= CALLS);
        askingChangesNothing();
        strings();
        bars();
        felts();
        songs();
        offersAndBuild();
        frame();
        rows();
        sheets();
        parts();
        CHECK.finish();
    }

    private static void askForAll() {
        for (int n = 0; n < 7; n++) {
            int what = n;
            STATE_OF.put("told " + what, x -> x.told(what));
        }
        for (int n = 0; n < 8; n++) {
            int s = n;
            STATE_OF.put("tone " + s, x -> x.ofString(s, 0));
            STATE_OF.put("free " + s, x -> x.ofString(s, 1));
            for (int m = 0; m < 5; m++) {
                int b = m;
                STATE_OF.put("felt " + b + " " + s, x -> x.has(b, s));
            }
        }
        for (int n = 0; n < 5; n++) {
            int b = n;
            STATE_OF.put("chord " + b, x -> x.ofBar(b, 1));
            STATE_OF.put("place " + b, x -> x.ofBar(b, 5));
        }
        for (int n = 0; n < 3; n++) {
            int g = n;
            STATE_OF.put("steps " + g, x -> x.misses(g, 3));
            STATE_OF.put("key " + g, x -> x.misses(g, 4));
            for (int i : new int[] {0, 1}) {
                STATE_OF.put("chord of step " + g + " " + i, x -> x.step(g, i, 0));
                STATE_OF.put("note of step " + g + " " + i, x -> x.step(g, i, 1));
            }
        }
        for (int n : new int[] {0, 24, 72}) {
            STATE_OF.put("offered " + n, x -> x.offer(n));
        }
        for (int set : new int[] {1, 2, 3, 4}) {
            STATE_OF.put("serves " + set, x -> x.serves(set));
        }
        askForRowsAndSheets();
    }

    private static void askForRowsAndSheets() {
        STATE_OF.put("worn", x -> x.worn());
        STATE_OF.put("sure 0 3", x -> x.sure(0, 3));
        STATE_OF.put("sure 0 4", x -> x.sure(0, 4));
        STATE_OF.put("sure 2 4", x -> x.sure(2, 4));
        STATE_OF.put("trace", x -> x.trace());
        for (int n = 0; n < 3; n++) {
            int k = n;
            STATE_OF.put("cell 3 0 as " + k, x -> x.at(3, 0, k));
            for (int m = 0; m <= 8; m++) {
                int i = m;
                STATE_OF.put("cell " + k + " " + i, x -> x.at(k, i, k));
            }
        }
    }

    private static Map<String, Long> stateOf(FeltZither x) {
        Map<String, Long> found = new TreeMap<>();
        STATE_OF.forEach((name, asked) -> found.put(name, asked.applyAsLong(x)));
        return found;
    }

    /** What differs behind a call: names and numbers by turns. */
    private static void changes(String call, ToLongFunction<FeltZither> asked, Object... namesAndNumbers) {
        changesAll(call, asked, wants(namesAndNumbers));
    }

    private static Map<String, Long> wants(Object... namesAndNumbers) {
        Map<String, Long> found = new TreeMap<>();
        for (int k = 0; k < namesAndNumbers.length; k += 2) {
            found.put((String) namesAndNumbers[k], ((Number) namesAndNumbers[k + 1]).longValue());
        }
        return found;
    }

    private static void changesAll(String call, ToLongFunction<FeltZither> asked, Map<String, Long> wants) {
        FeltZither x = RECIPE.make();
        Map<String, Long> ahead = stateOf(x);
        asked.applyAsLong(x);
        Map<String, Long> behind = stateOf(x);
        behind.entrySet().removeIf(one -> one.getValue().equals(ahead.get(one.getKey())));
        CHECK.holds(call + " changes " + wants + "; it changed " + behind, behind.equals(wants));
    }

    /** All that is told of a bar is that there is none. */
    private static void goes(int b, Map<String, Long> wants) {
        wants.put("chord " + b, (long) UNKNOWN);
        wants.put("place " + b, (long) UNKNOWN);
        for (int s = 0; s < 7; s++) {
            wants.put("felt " + b + " " + s, (long) UNKNOWN);
        }
    }

    private static void askingChangesNothing() {
        CallsTest.questions().forEach((name, asked) -> changes("asking " + name, asked));
        changes("fault", x -> x.fault());
        changes("playing a SONG", x -> x.trouble(1));
        changes("BEST, the STRING", x -> x.best(0));
    }

    private static void strings() {
        changes("a FREE STRING", x -> x.string(60, true), "told 0", 8, "told 1", 2, "tone 7", 60, "free 7", 1,
                "felt 0 7", 0, "felt 1 7", 0, "felt 2 7", 0, "felt 3 7", 0);
        changes("a STRING of a new CLASS", x -> x.string(26, false), "told 0", 8, "told 6", 7, "tone 7", 26, "free 7", 0,
                "felt 0 7", 0, "felt 1 7", 0, "felt 2 7", 0, "felt 3 7", 0);
        changes("tune: the one STRING of a class that SONGS need", x -> x.tune(6, 60), "tone 6", 60, "told 6", 5,
                "serves 2", 0, "serves 3", 0);
        changes("tune: a FREE one", x -> x.tune(5, 0), "tone 5", 0);
        changes("tune: to what it is", x -> x.tune(6, 34));
    }

    private static void bars() {
        changes("a BAR of a CHORD", x -> x.bar(95), "told 2", 5, "chord 4", 95, "place 4", 4, "felt 4 0", 2,
                "felt 4 1", 2, "felt 4 2", 0, "felt 4 3", 2, "felt 4 4", 2, "felt 4 5", 0, "felt 4 6", 2);
        changes("a BAR cut by hand", x -> x.blank(), "told 2", 5, "chord 4", NONE, "place 4", 4, "felt 4 0", 0,
                "felt 4 1", 0, "felt 4 2", 0, "felt 4 3", 0, "felt 4 4", 0, "felt 4 5", 0, "felt 4 6", 0);
    }

    private static void felts() {
        changes("a FELT is put", x -> x.felt(1, 0, true), "felt 1 0", 2);
        changes("a FELT is put that is there, WORN", x -> x.felt(1, 6, true));
        changes("a WORN FELT is taken", x -> x.felt(1, 6, false), "felt 1 6", 0);
        changes("a FELT is taken that was heard to be WORN", x -> x.felt(0, 4, false), "felt 0 4", 0, "worn", 1,
                "sure 0 4", UNKNOWN);
        changes("a FELT is taken that must be whole", x -> x.felt(0, 3, false), "felt 0 3", 0, "worn", NONE,
                "sure 0 3", UNKNOWN, "sure 0 4", STATE, "sure 2 4", STATE);
        changes("a FELT becomes WORN", x -> x.wear(0, 4, true), "felt 0 4", 1);
        changes("a FELT becomes WORN that must be whole", x -> x.wear(0, 3, true), "felt 0 3", 1);
        changes("a FELT becomes whole", x -> x.wear(1, 6, false), "felt 1 6", 2);
        changes("a FELT is WORN already", x -> x.wear(1, 6, true));
    }

    private static void songs() {
        changes("a SONG", x -> x.song(0, 0, 0, 1), "told 3", 3, "steps 2", 1, "key 2", 0, "chord of step 2 0", 0,
                "note of step 2 0", 24, "serves 1", 4, "serves 3", 7, "serves 4", 4);
        changes("a KEY", x -> x.key(1, 5), "key 1", 5, "chord of step 1 0", 29, "note of step 1 0", 35,
                "serves 2", 0, "serves 3", 1);
        changes("a KEY as it is", x -> x.key(1, 0));
    }

    private static void offersAndBuild() {
        changes("an OFFER", x -> x.offer(95), "told 4", 4);
        Map<String, Long> none = wants("told 2", 0, "told 5", 0, "worn", 0, "sure 0 3", UNKNOWN, "sure 0 4", UNKNOWN,
                "sure 2 4", UNKNOWN);
        for (int b = 0; b < 4; b++) {
            goes(b, none);
        }
        changesAll("no BARS are built", x -> x.build(0), none);
        Map<String, Long> three = wants("told 2", 3, "told 5", 0, "place 0", 0, "chord 1", 24, "chord 2", 72, "place 2", 2,
                "felt 1 4", 2, "felt 1 6", 0, "felt 2 6", 2, "worn", 0, "sure 0 3", 2, "sure 0 4", 2, "sure 2 4", 2);
        goes(3, three);
        changesAll("BARS are built", x -> x.build(7), three);
    }

    private static void frame() {
        changes("two BARS change PLACES", x -> x.change(1, 3), "place 1", 3, "place 3", 1);
        changes("a BAR and itself", x -> x.change(1, 1));
        changes("BARS are put: 0 2 1 3", x -> x.arrange(), "place 0", 0, "place 2", 1, "place 1", 2);
    }

    private static void rows() {
        changes("a ROW that tells nothing new", x -> x.heard(2, 1, 1, 0), "told 5", 3);
        changes("a ROW that nothing EXPLAINS", x -> x.heard(0, 1, 1, 0), "told 5", 3, "worn", NONE, "sure 0 3", STATE,
                "sure 0 4", STATE, "sure 2 4", STATE);
        changes("ROWS go", x -> x.unhear(), "told 5", 0, "worn", 0, "sure 0 3", 2, "sure 0 4", 2, "sure 2 4", 2);
    }

    private static void sheets() {
        changes("a row where there was nothing", x -> x.sheet(3, 2, 64), "cell 3 0 as 2", 0);
        changes("a row of 0", x -> x.sheet(3, 0, 0));
        changes("a new row", x -> x.sheet(0, 0, 2), "cell 0 1", 0, "cell 0 2", LOST, "cell 0 3", LOST);
        changes("a row of another LANE", x -> x.sheet(0, 1, 4), "cell 0 0", LOST, "cell 0 1", LOST, "cell 0 2", LOST,
                "cell 0 3", LOST);
        changes("a SHEET is lost", x -> x.lose(1), "cell 1 0", LOST, "cell 1 1", LOST, "cell 1 2", LOST,
                "cell 1 3", LOST, "cell 1 4", LOST, "cell 1 5", LOST, "cell 1 6", LOST);
        changes("nothing is lost", x -> x.lose(3));
        changes("a cell", x -> x.put(0, 3, -1), "cell 0 3", -1);
        changes("a cell that is cut", x -> x.put(1, 6, 65536 - 3), "cell 1 6", -3);
    }

    private static void parts() {
        int trace = RECIPE.make().trace();
        changes("telling of a BAR cut by hand", x -> x.tell(1), "trace", 31 * trace + 1);
        changes("telling of a CHORD's", x -> x.tell(0), "trace", (31 * trace + 2) * 31 + 1);
        changes("telling of a SEVENTH's", x -> x.tell(2),
                "trace", (((31 * trace + 3) * 31 + 2) * 31 + 1) * 31 + 1);
        changes("naming", x -> x.name(3), "trace", 31 * trace + 4);
        changes("naming a SEVENTH's", x -> x.name(2), "trace", 31 * trace + 5);
    }
}

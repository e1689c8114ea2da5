import java.util.ArrayList;
import java.util.LinkedHashMap;
import java.util.List;
import java.util.Map;
import java.util.function.ToLongFunction;

/**
 * What is told behind a change is told by things as they are then, whatever was told ahead of it: an
 * object that was asked ahead of the change and behind it answers as one that is asked behind it only.
 */
public final class AskedAgainTest extends Bench {
    private static final int CALLS = 512;
    private static final int STRINGS = 8;
    private static final int BARS = 4;
    private static final int SONGS = 4;
    private static final int MOST_CALLS_OF_A_CHANGE = 2;
    private static final int E_MINOR = 16;

    private static final Map<String, ToLongFunction<FeltZither>> QUESTIONS = new LinkedHashMap<>();
    private static final Map<String, ToLongFunction<FeltZither>> CHANGES = new LinkedHashMap<>();

    public static void main(String[] args) {
        askOfStrings();
        askOfBars();
        askOfSetsAndChords();
        askOfSongs();
        askOfOffersAndRows();
        changeStringsAndBars();
        changeFelts();
        changeSongsAndOffers();
        changeTheRest();
        List<String> always = new ArrayList<>(QUESTIONS.keySet());
        for (Recipe recipe : List.of(instrument(), narrowOne())) {
            int calls = recipe.size() + 2 * QUESTIONS.size() + MOST_CALLS_OF_A_CHANGE;
            CHECK.holds(calls + " calls are no more than an object is used for", calls <= CALLS);
            CHANGES.forEach((name, change) -> askedAgain(recipe, name, change));
            leaveOutWhatIsAnsweredOtherwise(recipe, always);
        }
        CHECK.holds("some change lets each question be answered otherwise, but for " + always, always.isEmpty());
        CHECK.finish();
    }

    /** C is held by two bars, F by one, A minor by none; one row was heard. */
    private static Recipe instrument() {
        return new Recipe().strings(24, 28, 31, 34, 35, 29, 33).and(x -> x.string(36, true))
                .and(x -> x.bar(F)).and(x -> x.bar(C_SEVENTH)).and(x -> x.bar(C_GREAT_SEVENTH)).and(x -> x.blank())
                .and(x -> x.felt(3, 4, true)).and(x -> x.wear(3, 4, true)).and(x -> x.felt(3, 5, true))
                .sheet(0, 2, C, 28, F, -1, C, 37, A_MINOR, 33, 1, -1)
                .and(x -> x.song(0, 2, 0, 2)).and(x -> x.song(0, 2, 2, 3)).and(x -> x.song(0, 2, 0, 1))
                .and(x -> x.song(0, 2, 6, 1))
                .and(x -> x.offer(C_SEVENTH)).and(x -> x.offer(F)).and(x -> x.offer(C_GREAT_SEVENTH))
                .and(x -> x.offer(A_MINOR))
                .sheet(1, 0, 2, 2, 2, 1, 0, 2, 2, 1, 2)
                .and(x -> x.heard(1, 1, 0, 0));
    }

    /** All strings together give one chord, with a bar that has no felts; there is none yet. */
    private static Recipe narrowOne() {
        return new Recipe().strings(24, 28, 31, 35, 47)
                .and(x -> x.blank()).and(x -> x.felt(0, 0, true)).and(x -> x.felt(0, 4, true))
                .sheet(0, 2, C_GREAT_SEVENTH, 28, E_MINOR, -1, A_MINOR, 25, E_MINOR, 24, C_GREAT_SEVENTH, 48)
                .and(x -> x.song(0, 2, 0, 2)).and(x -> x.song(0, 2, 4, 1)).and(x -> x.song(0, 2, 6, 1))
                .and(x -> x.song(0, 2, 8, 1))
                .and(x -> x.offer(C_GREAT_SEVENTH)).and(x -> x.offer(E_MINOR)).and(x -> x.offer(A_MINOR))
                .sheet(1, 0, 1, 2, 2, 2, 2, 2, 2, 2);
    }

    private static void askedAgain(Recipe recipe, String name, ToLongFunction<FeltZither> change) {
        FeltZither asked = recipe.make();
        QUESTIONS.values().forEach(question -> question.applyAsLong(asked));
        change.applyAsLong(asked);
        FeltZither fresh = recipe.make();
        change.applyAsLong(fresh);
        QUESTIONS.forEach((what, question) ->
                due(what + ", asked again behind " + name, question.applyAsLong(asked), question.applyAsLong(fresh)));
    }

    /** A question that is always answered the same would show nothing. */
    private static void leaveOutWhatIsAnsweredOtherwise(Recipe recipe, List<String> always) {
        FeltZither x = recipe.make();
        Map<String, Long> ahead = new LinkedHashMap<>();
        QUESTIONS.forEach((what, question) -> ahead.put(what, question.applyAsLong(x)));
        for (ToLongFunction<FeltZither> change : CHANGES.values()) {
            FeltZither y = recipe.make();
            change.applyAsLong(y);
            always.removeIf(what -> QUESTIONS.get(what).applyAsLong(y) != ahead.get(what));
        }
    }

    private static void askOfStrings() {
        for (int n = 0; n <= STRINGS; n++) {
            int s = n;
            QUESTIONS.put("tone " + s, x -> x.ofString(s, 0));
            QUESTIONS.put("class " + s, x -> x.ofString(s, 2));
        }
        QUESTIONS.put("FREE or not, the next one", x -> x.ofString(STRINGS, 1));
        for (int n = 0; n < STRINGS - 1; n++) {
            int s = n;
            QUESTIONS.put("whole FELTS on " + s, x -> x.ofString(s, 3));
            QUESTIONS.put("sounds 1 " + s, x -> x.sounds(1, s));
            QUESTIONS.put("otherwise " + s, x -> x.otherwise(s, 1));
        }
        QUESTIONS.put("otherwise, a FREE one", x -> x.otherwise(STRINGS - 1, 1));
        QUESTIONS.put("sounds, the next one", x -> x.sounds(0, STRINGS));
        for (int n = 0; n < 7; n++) {
            int what = n;
            QUESTIONS.put("told " + what, x -> x.told(what));
        }
    }

    private static void askOfBars() {
        for (int n = 0; n <= BARS; n++) {
            int b = n;
            for (int m = 0; m < 6; m++) {
                int what = m;
                QUESTIONS.put("ofBar " + b + " " + what, x -> x.ofBar(b, what));
            }
        }
        for (int n = 0; n < STRINGS - 1; n++) {
            int s = n;
            QUESTIONS.put("has 0 " + s, x -> x.has(0, s));
            QUESTIONS.put("has 3 " + s, x -> x.has(3, s));
        }
        QUESTIONS.put("has, the next BAR", x -> x.has(BARS, 3));
        QUESTIONS.put("has, the next STRING", x -> x.has(0, STRINGS));
        QUESTIONS.put("sure, the next BAR", x -> x.sure(BARS, 3));
        QUESTIONS.put("sounds, the next BAR", x -> x.sounds(1 << BARS, 3));
        QUESTIONS.put("gives, the next BAR", x -> x.gives(1 << BARS, C));
    }

    private static void askOfSetsAndChords() {
        for (int set : new int[] {0, 1, 6, 8, 16}) {
            QUESTIONS.put("classes " + set, x -> x.classes(set));
            QUESTIONS.put("strum, how many " + set, x -> x.strum(set, 0));
            QUESTIONS.put("strum, the lowest " + set, x -> x.strum(set, 1));
            QUESTIONS.put("strum, the highest " + set, x -> x.strum(set, 2));
            QUESTIONS.put("strum, the step " + set, x -> x.strum(set, 3));
        }
        QUESTIONS.put("gives F", x -> x.gives(1, F));
        QUESTIONS.put("gives C", x -> x.gives(6, C));
        QUESTIONS.put("gives C, all BARS", x -> x.gives(15, C));
        for (int chord : new int[] {C, F, C_SEVENTH}) {
            QUESTIONS.put("lack " + chord, x -> x.lack(chord));
            QUESTIONS.put("hold " + chord, x -> x.hold(chord));
        }
        for (int n : new int[] {0, 1, 2}) {
            QUESTIONS.put("holds " + n, x -> x.holds(n));
        }
    }

    private static void askOfSongs() {
        for (int n = 0; n <= SONGS; n++) {
            int g = n;
            int i = g == 1 ? 2 : 0;
            for (int m : new int[] {0, 1, 2, 3}) {
                int what = m;
                QUESTIONS.put("step " + g + " " + what, x -> x.step(g, i, what));
            }
            for (int m : new int[] {0, 1, 2, 4}) {
                int what = m;
                QUESTIONS.put("misses " + g + " " + what, x -> x.misses(g, what));
            }
            QUESTIONS.put("bestKey " + g, x -> x.bestKey(g));
            QUESTIONS.put("trouble " + g, x -> x.trouble(g));
            QUESTIONS.put("grip " + g, x -> x.grip(g, 0));
        }
        QUESTIONS.put("STEPS of the next one", x -> x.misses(SONGS, 3));
        QUESTIONS.put("playable", x -> x.playable());
        QUESTIONS.put("way", x -> x.way());
        QUESTIONS.put("least", x -> x.least());
        for (int what : new int[] {0, 1, 2}) {
            QUESTIONS.put("best " + what, x -> x.best(what));
        }
    }

    private static void askOfOffersAndRows() {
        for (int set : new int[] {2, 5, 7, 15}) {
            QUESTIONS.put("serves " + set, x -> x.serves(set));
        }
        QUESTIONS.put("fewest", x -> x.fewest());
        QUESTIONS.put("most 1", x -> x.most(1));
        QUESTIONS.put("most 12", x -> x.most(12));
        QUESTIONS.put("worn", x -> x.worn());
        QUESTIONS.put("sure 0 3", x -> x.sure(0, 3));
        QUESTIONS.put("sure 0 4", x -> x.sure(0, 4));
        QUESTIONS.put("sure 3 5", x -> x.sure(3, 5));
        QUESTIONS.put("cell 0 0", x -> x.at(0, 0, 2));
        QUESTIONS.put("cell 3 0", x -> x.at(3, 0, 1));
        QUESTIONS.put("as 0 1", x -> x.as(0, 1));
        QUESTIONS.put("as 4 2", x -> x.as(4, 2));
        QUESTIONS.put("trace", x -> x.trace());
    }

    private static void changeStringsAndBars() {
        for (int tone : new int[] {0, 24, 25, 33, 36, 37, 60}) {
            CHANGES.put("a STRING of " + tone, x -> x.string(tone, false));
            CHANGES.put("a FREE STRING of " + tone, x -> x.string(tone, true));
        }
        for (int n = 0; n < STRINGS; n++) {
            int s = n;
            for (int by : new int[] {-1, 1, 12}) {
                CHANGES.put("tune " + s + " by " + by, x -> x.tune(s, x.ofString(s, 0) + by));
            }
        }
        for (int chord : new int[] {C, F, G, A_MINOR, C_SEVENTH}) {
            CHANGES.put("a BAR of " + chord, x -> x.bar(chord));
        }
        CHANGES.put("a BAR cut by hand", x -> x.blank());
    }

    private static void changeFelts() {
        for (int n = 0; n < BARS; n++) {
            int b = n;
            for (int m = 0; m < STRINGS - 1; m++) {
                int s = m;
                CHANGES.put("a FELT is put " + b + " " + s, x -> x.felt(b, s, true));
                CHANGES.put("a FELT is taken " + b + " " + s, x -> x.felt(b, s, false));
                CHANGES.put("a FELT is WORN " + b + " " + s, x -> x.wear(b, s, true));
                CHANGES.put("a FELT is whole " + b + " " + s, x -> x.wear(b, s, false));
            }
        }
    }

    private static void changeSongsAndOffers() {
        CHANGES.put("a SONG that can be played", x -> x.song(0, 2, 0, 2));
        CHANGES.put("a SONG that can't be", x -> x.song(0, 2, 0, 4));
        CHANGES.put("a SONG of one CHORD", x -> x.song(0, 2, 2, 1));
        CHANGES.put("a SONG of a NOTE that is not there", x -> x.song(0, 2, 4, 1));
        CHANGES.put("a SONG of a CHORD that is not there", x -> x.song(0, 2, 8, 1));
        for (int t = -6; t <= 5; t++) {
            int key = t;
            for (int g : new int[] {0, 1, 2, 3}) {
                CHANGES.put("a KEY " + g + " " + key, x -> x.key(g, key));
            }
        }
        CHANGES.put("an OFFER of C", x -> x.offer(C));
        CHANGES.put("an OFFER of G", x -> x.offer(G));
        for (int n = 0; n < 16; n++) {
            int set = n;
            CHANGES.put("build " + set, x -> x.build(set));
        }
    }

    private static void changeTheRest() {
        for (int n = 0; n < BARS; n++) {
            int b = n;
            CHANGES.put("change " + b, x -> x.change(b, 3 - b));
            CHANGES.put("change 1 " + b, x -> x.change(1, b));
            CHANGES.put("tell " + b, x -> x.tell(b));
            CHANGES.put("name " + b, x -> x.name(b));
        }
        CHANGES.put("arrange", x -> x.arrange());
        for (int n : new int[] {0, 1, 8, 9}) {
            int set = n;
            CHANGES.put("a ROW HEARD " + set, x -> x.heard(set, 1, 0, 0));
        }
        CHANGES.put("unhear", x -> x.unhear());
        CHANGES.put("a new row", x -> x.sheet(0, 2, 3));
        CHANGES.put("a row where there was nothing", x -> x.sheet(3, 1, 3));
        CHANGES.put("lose", x -> x.lose(0));
        CHANGES.put("put", x -> x.put(0, 0, 9));
    }
}

import java.util.LinkedHashMap;
import java.util.Map;
import java.util.function.ToLongFunction;

/** An object is used for at most 512 calls: the 512th is answered as the first would be. */
public final class CallsTest extends Bench {
    private static final int CALLS = 512;

    public static void main(String[] args) {
        theLastCallIsAnswered();
        theLastCallOfAFullOne();
        oneCallAgainAndAgain();
        comingAndGoing();
        untilItIsFull();
        laterCallsEnd();
        CHECK.finish();
    }

    /** Each call that only asks, with numbers that the small one and the full one take. */
    static Map<String, ToLongFunction<FeltZither>> questions() {
        Map<String, ToLongFunction<FeltZither>> calls = new LinkedHashMap<>();
        calls.put("ofString", x -> x.ofString(6, 3));
        calls.put("ofBar", x -> x.ofBar(2, 4));
        calls.put("has", x -> x.has(0, 3));
        calls.put("sounds", x -> x.sounds(5, 3));
        calls.put("classes", x -> x.classes(9));
        calls.put("chord", x -> x.chord(95));
        calls.put("gives", x -> x.gives(1, 0));
        calls.put("lack", x -> x.lack(72));
        calls.put("hold", x -> x.hold(0));
        calls.put("holds", x -> x.holds(2));
        calls.put("strum", x -> x.strum(3, 3));
        calls.put("step", x -> x.step(1, 0, 1));
        calls.put("misses", x -> x.misses(1, 2));
        calls.put("bestKey", x -> x.bestKey(1));
        calls.put("playable", x -> x.playable());
        calls.put("serves", x -> x.serves(6));
        calls.put("fewest", x -> x.fewest());
        calls.put("most", x -> x.most(2));
        calls.put("way", x -> x.way());
        calls.put("least", x -> x.least());
        calls.put("trouble", x -> x.trouble(0));
        calls.put("grip", x -> x.grip(1, 0));
        calls.put("worn", x -> x.worn());
        calls.put("sure", x -> x.sure(0, 3));
        calls.put("otherwise", x -> x.otherwise(3, -1));
        calls.put("best", x -> x.best(2));
        calls.put("at", x -> x.at(0, 1, 0));
        calls.put("as", x -> x.as(2, 1));
        calls.put("trace", x -> x.trace());
        calls.put("told", x -> x.told(6));
        return calls;
    }

    /** Those that change something, and answer the same only once. */
    private static Map<String, ToLongFunction<FeltZither>> changes() {
        Map<String, ToLongFunction<FeltZither>> calls = new LinkedHashMap<>();
        calls.put("string", x -> x.string(60, true));
        calls.put("tune", x -> x.tune(6, 60));
        calls.put("bar", x -> x.bar(95));
        calls.put("blank", x -> x.blank());
        calls.put("felt", x -> x.felt(1, 3, false));
        calls.put("wear", x -> x.wear(1, 3, true));
        calls.put("song", x -> x.song(0, 0, 0, 1));
        calls.put("key", x -> x.key(1, 5));
        calls.put("offer", x -> x.offer(95));
        calls.put("build", x -> x.build(7));
        calls.put("change", x -> x.change(1, 2));
        calls.put("arrange", x -> x.arrange());
        calls.put("heard", x -> x.heard(2, 1, 1, 0));
        calls.put("unhear", x -> x.unhear());
        calls.put("sheet", x -> x.sheet(3, 2, 64));
        calls.put("lose", x -> x.lose(2));
        calls.put("put", x -> x.put(0, 0, 1));
        calls.put("tell", x -> x.tell(2));
        calls.put("name", x -> x.name(2));
        calls.put("fault", x -> x.fault());
        return calls;
    }

    private static Map<String, ToLongFunction<FeltZither>> face() {
        Map<String, ToLongFunction<FeltZither>> calls = questions();
        calls.putAll(changes());
        return calls;
    }

    private static void theLastCallIsAnswered() {
        due("all fifty calls", face().size(), 50);
        lastCallsOf(Recipe.small(), face());
        lastCallsOf(new Recipe(), face());
    }

    private static void theLastCallOfAFullOne() {
        lastCallsOf(Recipe.full(), face());
    }

    private static void lastCallsOf(Recipe recipe, Map<String, ToLongFunction<FeltZither>> calls) {
        for (Map.Entry<String, ToLongFunction<FeltZither>> call : calls.entrySet()) {
            FeltZither x = recipe.make();
            for (int k = recipe.size(); k < CALLS - 1; k++) {
                x.told(k % 7);
            }
            long want = call.getValue().applyAsLong(recipe.make());
            due("the 512th call: " + call.getKey(), call.getValue().applyAsLong(x), want);
        }
    }

    private static void oneCallAgainAndAgain() {
        Recipe recipe = Recipe.small();
        for (Map.Entry<String, ToLongFunction<FeltZither>> call : questions().entrySet()) {
            FeltZither x = recipe.make();
            long want = call.getValue().applyAsLong(x);
            for (int k = recipe.size() + 1; k < CALLS; k++) {
                due("again and again: " + call.getKey(), call.getValue().applyAsLong(x), want);
            }
        }
    }

    private static void comingAndGoing() {
        FeltZither rows = strings(30);
        rows.blank();
        rows.sheet(0, 0, 1);
        for (int k = 3; k + 1 < CALLS; k += 2) {
            due("a ROW comes", rows.heard(1, 0, 0, 0), 0);
            due("and goes", rows.unhear(), 1);
        }
        FeltZither bars = strings(25);
        for (int k = 0; k < 12; k++) {
            bars.offer(k);
        }
        for (int k = 13; k + 2 < CALLS; k += 3) {
            due("all BARS come", bars.build(4095), 12);
            due("and go", bars.build(0), 0);
            due("and one is cut", bars.blank(), 0);
        }
        FeltZither sheets = new FeltZither();
        for (int k = 0; k + 3 < CALLS; k += 4) {
            due("a new row", sheets.sheet(3, k / 4 % 3, 64), 1);
            due("its last cell", sheets.put(3, 63, k), 1);
            due("as it was put, or cut", sheets.at(3, 63, k / 4 % 3), k / 4 % 3 == 0 ? (byte) k : k);
            due("it is lost", sheets.lose(3), 1);
        }
        FeltZither felts = strings(30);
        felts.blank();
        for (int k = 2; k + 3 < CALLS; k += 4) {
            due("a FELT is put", felts.felt(0, 0, true), 1);
            due("it becomes WORN", felts.wear(0, 0, true), 1);
            due("it hushes nothing", felts.sounds(1, 0), 1);
            due("it is taken", felts.felt(0, 0, false), 1);
        }
    }

    private static void untilItIsFull() {
        FeltZither strings = new FeltZither();
        FeltZither bars = new FeltZither();
        FeltZither blanks = new FeltZither();
        FeltZither songs = new FeltZither();
        FeltZither rows = new FeltZither();
        songs.sheet(0, 0, 2);
        rows.sheet(0, 0, 0);
        for (int k = 0; k < CALLS - 1; k++) {
            due("36 STRINGS, then FULL", strings.string(k % 61, k % 2 == 0), k < 36 ? k : FULL);
            due("12 BARS, then FULL", bars.bar(k % 96), k < 12 ? k : FULL);
            due("12 BARS by hand, then FULL", blanks.blank(), k < 12 ? k : FULL);
            due("8 SONGS, then FULL", songs.song(0, 0, 0, 1), k < 8 ? k : FULL);
            due("20 ROWS, then FULL", rows.heard(0, 0, 0, 0), k < 20 ? k : FULL);
        }
        FeltZither offers = new FeltZither();
        for (int k = 0; k < CALLS; k++) {
            due("12 OFFERS, then FULL, or STATE", offers.offer(k % 96), k < 12 ? k : k % 96 < 12 ? STATE : FULL);
        }
    }

    /** What later calls answer is free; but none throws, and each ends. */
    private static void laterCallsEnd() {
        FeltZither x = Recipe.full().make();
        int calls = 0;
        for (int k = 0; k < 60; k++) {
            for (ToLongFunction<FeltZither> call : face().values()) {
                call.applyAsLong(x);
                calls++;
            }
        }
        due("calls that ended", calls, 3000);
    }
}

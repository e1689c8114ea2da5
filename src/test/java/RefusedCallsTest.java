import java.util.ArrayList;
import java.util.List;
import java.util.function.ToLongFunction;

/**
 * A call that is refused, or comes to a fault, changes nothing but what fault() tells (if it names
 * faults): what other calls answer is the same ahead of it and behind it.
 */
public final class RefusedCallsTest extends Bench {
    private static final int CALLS = 512;
    /** In place of a fault: the call names none, so fault() stays. */
    private static final int STAYS = -1;

    /** A call, what it must answer, and the fault that is told behind it. */
    private record Refused(String name, long answer, int fault, ToLongFunction<FeltZither> call) {
    }

    private final Recipe recipe;
    private final List<ToLongFunction<FeltZither>> questions = new ArrayList<>();

    private RefusedCallsTest(Recipe recipe) {
        this.recipe = recipe;
    }

    public static void main(String[] args) {
        RefusedCallsTest few = new RefusedCallsTest(Recipe.small());
        few.askAllOfTheSmallOne();
        few.refusedStringsAndBars();
        few.refusedQuestions();
        few.refusedSongsAndOffers();
        few.refusedFrameAndRows();
        few.refusedSheetsAndParts();
        few.refusedSong();
        few.refusedHeard();
        RefusedCallsTest many = new RefusedCallsTest(Recipe.full());
        many.askMostOfTheFullOne();
        many.refusedAsFull();
        RefusedCallsTest none = new RefusedCallsTest(new Recipe());
        none.askAllOfNothing();
        none.refusedOfNothing();
        RefusedCallsTest unexplained = new RefusedCallsTest(Recipe.small().and(x -> x.heard(0, 1, 1, 0)));
        unexplained.askAllOfTheSmallOne();
        unexplained.refusedAsNothingExplains();
        CHECK.finish();
    }

    private void ask(ToLongFunction<FeltZither> question) {
        questions.add(question);
    }

    private void askAllOfTheSmallOne() {
        for (int n = 0; n < 7; n++) {
            int s = n;
            ask(x -> x.told(s));
            ask(x -> x.ofString(s, 0));
            ask(x -> x.ofString(s, 1));
            ask(x -> x.ofString(s, 3));
            ask(x -> x.otherwise(s, 1));
            for (int m = 0; m < 4; m++) {
                int b = m;
                ask(x -> x.has(b, s));
                ask(x -> x.sure(b, s));
            }
        }
        askBars(4);
        askSongs(2);
        askOffers(3);
        for (int n = 0; n < 3; n++) {
            int lane = n;
            ask(x -> x.best(lane));
            for (int i : new int[] {0, 2, 3, 6}) {
                ask(x -> x.at(lane, i, lane));
            }
        }
        ask(x -> x.step(0, 1, 0));
        ask(x -> x.step(0, 1, 1));
        ask(x -> x.grip(0, 1));
        ask(x -> x.at(3, 0, 0));
    }

    private void askMostOfTheFullOne() {
        for (int n = 0; n < 36; n += 5) {
            int s = n;
            ask(x -> x.ofString(s, 0));
            ask(x -> x.ofString(s, 1));
            ask(x -> x.has(s % 12, s));
            ask(x -> x.otherwise(s, -1));
        }
        for (int n = 0; n < 7; n++) {
            int what = n;
            ask(x -> x.told(what));
            ask(x -> x.sure(what, what + 2));
            ask(x -> x.at(1, 9 * what, 2));
        }
        askBars(12);
        askSongs(8);
        askOffers(12);
        ask(x -> x.at(0, 1, 0));
        ask(x -> x.at(2, 0, 0));
    }

    private void askAllOfNothing() {
        for (int n = 0; n < 7; n++) {
            int what = n;
            ask(x -> x.told(what));
            ask(x -> x.at(what, 0, 0));
            ask(x -> x.best(what));
        }
        askBars(0);
        askSongs(0);
        askOffers(0);
    }

    private void askBars(int many) {
        for (int n = 0; n < many; n++) {
            int b = n;
            ask(x -> x.ofBar(b, 0));
            ask(x -> x.ofBar(b, 1));
            ask(x -> x.ofBar(b, 2));
            ask(x -> x.ofBar(b, 3));
            ask(x -> x.ofBar(b, 5));
        }
        ask(x -> x.classes((1 << many) - 1));
        ask(x -> x.classes(0));
        ask(x -> x.strum(0, 3));
        ask(x -> x.hold(0));
        ask(x -> x.holds(1));
        ask(x -> x.holds(2));
        ask(x -> x.lack(95));
        ask(x -> x.worn());
    }

    private void askSongs(int many) {
        for (int n = 0; n < many; n++) {
            int g = n;
            ask(x -> x.misses(g, 2));
            ask(x -> x.misses(g, 3));
            ask(x -> x.misses(g, 4));
            ask(x -> x.step(g, 0, 0));
            ask(x -> x.step(g, 0, 1));
            ask(x -> x.trouble(g));
        }
        ask(x -> x.bestKey(0));
        ask(x -> x.grip(0, 0));
        ask(x -> x.playable());
        ask(x -> x.way());
        ask(x -> x.least());
    }

    private void askOffers(int many) {
        for (int n = 0; n < many; n++) {
            int k = n;
            ask(x -> x.serves(1 << k));
        }
        ask(x -> x.fewest());
        ask(x -> x.most(12));
        ask(x -> x.trace());
    }

    private long[] answers(FeltZither x) {
        long[] found = new long[questions.size()];
        for (int k = 0; k < found.length; k++) {
            found[k] = questions.get(k).applyAsLong(x);
        }
        return found;
    }

    /** Three ways to begin, so that a fault that stays is told from one that is put to 0 or anew. */
    private void refused(Refused... all) {
        int calls = recipe.size() + 2 * questions.size() + 4;
        CHECK.holds(calls + " calls are no more than an object is used for", calls <= CALLS);
        for (Refused refused : all) {
            for (int ahead = 0; ahead < 3; ahead++) {
                FeltZither x = recipe.make();
                long[] wants = answers(x);
                meetFault(x, ahead);
                int fault = x.fault();
                due("refused: " + refused.name(), refused.call().applyAsLong(x), refused.answer());
                due("its FAULT, behind " + ahead + ": " + refused.name(), x.fault(),
                        refused.fault() == STAYS ? fault : refused.fault());
                long[] got = answers(x);
                for (int k = 0; k < wants.length; k++) {
                    due("behind " + refused.name() + ", question " + k, got[k], wants[k]);
                }
            }
        }
    }

    private static void meetFault(FeltZither x, int which) {
        if (which == 0) {
            x.put(9, 0, 0);
        } else if (which == 1) {
            x.put(3, 0, 0);
        } else {
            x.put(0, 64, 0);
        }
    }

    private static Refused plain(String name, long answer, ToLongFunction<FeltZither> call) {
        return new Refused(name, answer, STAYS, call);
    }

    private static Refused named(String name, long answer, ToLongFunction<FeltZither> call) {
        return new Refused(name, answer, 0, call);
    }

    private static Refused met(String name, int fault, ToLongFunction<FeltZither> call) {
        return new Refused(name, -10 - fault, fault, call);
    }

    private void refusedStringsAndBars() {
        refused(plain("string: below", OUTSIDE, x -> x.string(-1, false)),
                plain("string: above", OUTSIDE, x -> x.string(61, true)),
                plain("tune: no STRING", UNKNOWN, x -> x.tune(7, 30)),
                plain("tune: no STRING below", UNKNOWN, x -> x.tune(-1, 30)),
                plain("tune: below", OUTSIDE, x -> x.tune(0, -1)),
                plain("tune: above", OUTSIDE, x -> x.tune(6, 61)),
                plain("bar: below", OUTSIDE, x -> x.bar(-1)),
                plain("bar: above", OUTSIDE, x -> x.bar(96)),
                plain("felt: no BAR", UNKNOWN, x -> x.felt(4, 0, true)),
                plain("felt: no STRING", UNKNOWN, x -> x.felt(1, 7, true)),
                plain("felt: no STRING below", UNKNOWN, x -> x.felt(1, -1, false)),
                plain("felt: FREE, put", STATE, x -> x.felt(1, 5, true)),
                plain("felt: FREE, taken", STATE, x -> x.felt(1, 5, false)),
                plain("felt: no BAR, FREE", UNKNOWN, x -> x.felt(4, 5, true)),
                plain("wear: no BAR", UNKNOWN, x -> x.wear(4, 0, true)),
                plain("wear: no STRING", UNKNOWN, x -> x.wear(1, 7, true)),
                plain("wear: no FELT", UNKNOWN, x -> x.wear(1, 0, true)),
                plain("wear: no FELT, whole", UNKNOWN, x -> x.wear(1, 0, false)),
                plain("wear: FREE", UNKNOWN, x -> x.wear(0, 5, true)));
    }

    private void refusedQuestions() {
        refused(plain("ofString: no STRING", UNKNOWN, x -> x.ofString(7, 0)),
                plain("ofString: what", OUTSIDE, x -> x.ofString(0, 4)),
                plain("ofBar: no BAR", UNKNOWN, x -> x.ofBar(4, 0)),
                plain("ofBar: what", OUTSIDE, x -> x.ofBar(0, 6)),
                plain("has: no BAR", UNKNOWN, x -> x.has(4, 0)),
                plain("has: no STRING", UNKNOWN, x -> x.has(0, 7)),
                plain("sounds: no STRING", UNKNOWN, x -> x.sounds(16, 7)),
                plain("sounds: set", OUTSIDE, x -> x.sounds(16, 0)),
                plain("classes: set", OUTSIDE, x -> x.classes(16)),
                plain("chord: above", OUTSIDE, x -> x.chord(96)),
                plain("gives: set", OUTSIDE, x -> x.gives(16, 0)),
                plain("gives: chord", OUTSIDE, x -> x.gives(0, 96)),
                plain("lack: below", OUTSIDE, x -> x.lack(-1)),
                plain("hold: above", OUTSIDE, x -> x.hold(96)),
                plain("holds: three", OUTSIDE, x -> x.holds(3)),
                plain("strum: set", OUTSIDE, x -> x.strum(MIN, 0)),
                plain("strum: what", OUTSIDE, x -> x.strum(0, -1)),
                plain("told: above", OUTSIDE, x -> x.told(7)),
                plain("told: below", OUTSIDE, x -> x.told(-1)));
    }

    private void refusedSongsAndOffers() {
        refused(plain("step: no SONG", UNKNOWN, x -> x.step(2, 0, 0)),
                plain("step: no STEP", UNKNOWN, x -> x.step(0, 2, 0)),
                plain("step: no STEP below", UNKNOWN, x -> x.step(0, -1, 4)),
                plain("step: what", OUTSIDE, x -> x.step(0, 1, 4)),
                plain("key: no SONG", UNKNOWN, x -> x.key(2, 0)),
                plain("key: no SONG, nor KEY", UNKNOWN, x -> x.key(-1, 6)),
                plain("key: above", OUTSIDE, x -> x.key(0, 6)),
                plain("key: below", OUTSIDE, x -> x.key(1, -7)),
                plain("key: far below", OUTSIDE, x -> x.key(1, MIN)),
                plain("misses: no SONG", UNKNOWN, x -> x.misses(2, 0)),
                plain("misses: what", OUTSIDE, x -> x.misses(0, 5)),
                plain("bestKey: no SONG", 99, x -> x.bestKey(2)),
                plain("bestKey: no SONG below", 99, x -> x.bestKey(-1)),
                plain("offer: below", OUTSIDE, x -> x.offer(-1)),
                plain("offer: above", OUTSIDE, x -> x.offer(96)),
                plain("offer: there is one", STATE, x -> x.offer(72)),
                plain("serves: set", OUTSIDE, x -> x.serves(8)),
                plain("most: below", OUTSIDE, x -> x.most(-1)),
                plain("most: above", OUTSIDE, x -> x.most(13)),
                plain("build: set", OUTSIDE, x -> x.build(8)),
                plain("build: set and one more", OUTSIDE, x -> x.build(15)),
                plain("build: the sign", OUTSIDE, x -> x.build(MIN | 1)));
    }

    private void refusedFrameAndRows() {
        refused(plain("change: the first", UNKNOWN, x -> x.change(4, 0)),
                plain("change: the second", UNKNOWN, x -> x.change(0, 4)),
                plain("change: the second, below", UNKNOWN, x -> x.change(1, -1)),
                plain("change: both", UNKNOWN, x -> x.change(4, 4)),
                plain("trouble: no SONG", UNKNOWN, x -> x.trouble(2)),
                plain("grip: no SONG", UNKNOWN, x -> x.grip(2, 0)),
                plain("grip: no STEP", UNKNOWN, x -> x.grip(1, 1)),
                plain("sure: no BAR", UNKNOWN, x -> x.sure(4, 0)),
                plain("sure: no STRING", UNKNOWN, x -> x.sure(0, 7)),
                plain("sure: no FELT", UNKNOWN, x -> x.sure(0, 0)),
                plain("otherwise: no STRING", UNKNOWN, x -> x.otherwise(7, 1)),
                plain("otherwise: 0", OUTSIDE, x -> x.otherwise(0, 0)),
                plain("otherwise: 3", OUTSIDE, x -> x.otherwise(0, 3)),
                plain("otherwise: the last int", OUTSIDE, x -> x.otherwise(0, MAX)),
                plain("best: above", 99, x -> x.best(3)),
                plain("best: below", 99, x -> x.best(-1)));
    }

    private void refusedSheetsAndParts() {
        refused(named("sheet: no SHEET", UNKNOWN, x -> x.sheet(4, 0, 4)),
                named("sheet: lane", OUTSIDE, x -> x.sheet(0, 3, 4)),
                named("sheet: lane below", OUTSIDE, x -> x.sheet(0, -1, 4)),
                named("sheet: too long", OUTSIDE, x -> x.sheet(0, 0, 65)),
                named("sheet: lane and length", OUTSIDE, x -> x.sheet(0, 3, -1)),
                met("sheet: below 0", 4, x -> x.sheet(0, 0, -1)),
                met("sheet: far below 0", 4, x -> x.sheet(2, 0, MIN)),
                met("sheet: below 0, nothing there", 4, x -> x.sheet(3, 0, -1)),
                plain("lose: no SHEET", UNKNOWN, x -> x.lose(4)),
                plain("lose: no SHEET below", UNKNOWN, x -> x.lose(-1)),
                named("put: no SHEET", UNKNOWN, x -> x.put(4, 0, 1)),
                met("put: nothing there", 1, x -> x.put(3, 0, 1)),
                met("put: the end", 3, x -> x.put(0, 4, 1)),
                met("put: below", 3, x -> x.put(2, -1, 1)),
                new Refused("at: no SHEET", LOST, 0, x -> x.at(4, 0, 0)),
                new Refused("at: lane", LOST, 0, x -> x.at(0, 0, 3)),
                new Refused("at: nothing there", LOST, 1, x -> x.at(3, 0, 0)),
                new Refused("at: another LANE", LOST, 2, x -> x.at(0, 0, 1)),
                new Refused("at: the end", LOST, 3, x -> x.at(0, 4, 0)),
                plain("tell: no BAR", UNKNOWN, x -> x.tell(4)),
                plain("tell: no BAR below", UNKNOWN, x -> x.tell(-1)),
                plain("name: no BAR", UNKNOWN, x -> x.name(4)),
                named("as: no BAR", UNKNOWN, x -> x.as(4, 0)),
                named("as: kind", OUTSIDE, x -> x.as(0, 3)),
                met("as: no CHORD's", 2, x -> x.as(1, 1)),
                met("as: no SEVENTH's", 2, x -> x.as(0, 2)));
    }

    private void refusedSong() {
        refused(named("song: no SHEET", UNKNOWN, x -> x.song(4, 0, 0, 1)),
                named("song: lane", OUTSIDE, x -> x.song(0, 3, 0, 1)),
                met("song: another LANE", 2, x -> x.song(0, 1, 0, 1)),
                met("song: nothing there", 1, x -> x.song(3, 0, 0, 1)),
                met("song: n below 0", 4, x -> x.song(0, 0, 0, -1)),
                met("song: not all there", 3, x -> x.song(0, 0, 0, 3)),
                met("song: not all there, from 3 on", 3, x -> x.song(0, 0, 3, 1)),
                met("song: none, beyond the end", 3, x -> x.song(0, 0, 5, 0)),
                named("song: none", OUTSIDE, x -> x.song(0, 0, 0, 0)),
                named("song: no CHORD", OUTSIDE, x -> x.song(2, 2, 0, 1)),
                named("song: no NOTE", OUTSIDE, x -> x.song(2, 2, 1, 1)));
    }

    private void refusedHeard() {
        refused(named("heard: no SHEET", UNKNOWN, x -> x.heard(1, 4, 1, 0)),
                named("heard: set", OUTSIDE, x -> x.heard(16, 1, 1, 0)),
                named("heard: lane", OUTSIDE, x -> x.heard(1, 1, 3, 0)),
                met("heard: another LANE", 2, x -> x.heard(1, 1, 0, 0)),
                met("heard: nothing there", 1, x -> x.heard(1, 3, 1, 0)),
                met("heard: not all there", 3, x -> x.heard(1, 1, 1, 1)),
                met("heard: below", 3, x -> x.heard(1, 1, 1, -1)),
                met("heard: too short", 3, x -> x.heard(1, 0, 0, 0)),
                named("heard: a cell", OUTSIDE, x -> x.heard(1, 2, 2, 0)),
                named("heard: a cell below", OUTSIDE, x -> x.heard(1, 2, 2, 1)));
    }

    private void refusedAsFull() {
        refused(plain("string: a 37th", FULL, x -> x.string(30, false)),
                plain("string: a 37th, FREE", FULL, x -> x.string(30, true)),
                plain("bar: a 13th", FULL, x -> x.bar(0)),
                plain("blank: a 13th", FULL, x -> x.blank()),
                plain("offer: a 13th", FULL, x -> x.offer(1)),
                plain("offer: there is one", STATE, x -> x.offer(77)),
                named("song: a ninth", FULL, x -> x.song(0, 0, 0, 1)),
                named("heard: a 21st", FULL, x -> x.heard(1, 1, 2, 0)),
                named("heard: set", OUTSIDE, x -> x.heard(4096, 1, 2, 0)),
                met("heard: not all there", 3, x -> x.heard(1, 1, 2, 29)),
                plain("build: set", OUTSIDE, x -> x.build(4096)),
                plain("string: above", OUTSIDE, x -> x.string(61, false)),
                plain("bar: above", OUTSIDE, x -> x.bar(96)),
                plain("change: no BAR", UNKNOWN, x -> x.change(0, 12)),
                plain("felt: no STRING", UNKNOWN, x -> x.felt(0, 36, true)));
    }

    private void refusedOfNothing() {
        refused(plain("tune", UNKNOWN, x -> x.tune(0, 30)),
                plain("felt", UNKNOWN, x -> x.felt(0, 0, true)),
                plain("wear", UNKNOWN, x -> x.wear(0, 0, true)),
                plain("key", UNKNOWN, x -> x.key(0, 1)),
                plain("build", OUTSIDE, x -> x.build(1)),
                plain("change", UNKNOWN, x -> x.change(0, 0)),
                plain("sure", UNKNOWN, x -> x.sure(0, 0)),
                plain("tell", UNKNOWN, x -> x.tell(0)),
                plain("name", UNKNOWN, x -> x.name(0)),
                named("as", UNKNOWN, x -> x.as(0, 0)),
                met("song", 1, x -> x.song(0, 0, 0, 1)),
                met("heard", 1, x -> x.heard(0, 0, 0, 0)),
                named("heard: set", OUTSIDE, x -> x.heard(1, 0, 0, 0)),
                met("put", 1, x -> x.put(0, 0, 0)),
                new Refused("at", LOST, 1, x -> x.at(0, 0, 0)));
    }

    private void refusedAsNothingExplains() {
        refused(plain("sure: nothing EXPLAINS", STATE, x -> x.sure(0, 3)),
                plain("sure: nothing EXPLAINS, a WORN one", STATE, x -> x.sure(1, 6)),
                plain("sure: no FELT", UNKNOWN, x -> x.sure(0, 0)));
    }
}

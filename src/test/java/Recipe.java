import java.util.ArrayList;
import java.util.List;
import java.util.function.ToLongFunction;

/** A row of calls that is put to a new object as often as one is wanted, and whose number is known. */
final class Recipe {
    private final List<ToLongFunction<FeltZither>> calls = new ArrayList<>();

    Recipe and(ToLongFunction<FeltZither> call) {
        calls.add(call);
        return this;
    }

    Recipe strings(int... tones) {
        for (int tone : tones) {
            and(x -> x.string(tone, false));
        }
        return this;
    }

    Recipe sheet(int k, int lane, int... cells) {
        and(x -> x.sheet(k, lane, cells.length));
        for (int i = 0; i < cells.length; i++) {
            int cell = i;
            and(x -> x.put(k, cell, cells[cell]));
        }
        return this;
    }

    int size() {
        return calls.size();
    }

    FeltZither make() {
        FeltZither x = new FeltZither();
        for (ToLongFunction<FeltZither> call : calls) {
            call.applyAsLong(x);
        }
        return x;
    }

    /**
     * A bit of everything: seven strings (the sixth is free), four bars, two songs, three offers, two
     * rows heard, and sheets of bytes, shorts and ints; the last one has nothing.
     */
    static Recipe small() {
        return new Recipe().strings(24, 28, 31, 25, 29).and(x -> x.string(30, true)).strings(34)
                .and(x -> x.bar(0)).and(x -> x.blank()).and(x -> x.bar(24)).and(x -> x.bar(5))
                .and(x -> x.felt(1, 3, true)).and(x -> x.felt(1, 6, true)).and(x -> x.wear(1, 6, true))
                .and(x -> x.wear(3, 1, true)).and(x -> x.change(0, 2))
                .sheet(0, 0, 0, 24, 24, 30)
                .sheet(1, 1, 2, 2, 2, 0, 1, 1, 2)
                .sheet(2, 2, Integer.MIN_VALUE, -1, 70000, 0, 0, 0, 0, 0)
                .and(x -> x.song(0, 0, 0, 2)).and(x -> x.song(0, 0, 2, 1)).and(x -> x.key(0, 5)).and(x -> x.key(1, -2))
                .and(x -> x.offer(0)).and(x -> x.offer(24)).and(x -> x.offer(72))
                .and(x -> x.heard(1, 1, 1, 0)).and(x -> x.heard(6, 1, 1, 0))
                .and(x -> x.name(0)).and(x -> x.tell(2));
    }

    /** As much of everything as there may be. */
    static Recipe full() {
        Recipe recipe = new Recipe();
        for (int s = 0; s < 36; s++) {
            int tone = 12 + s;
            recipe.and(x -> x.string(tone, tone % 7 == 6));
        }
        for (int k = 0; k < 12; k++) {
            int chord = 7 * k;
            recipe.and(x -> x.offer(chord));
        }
        recipe.and(x -> x.build(4095)).and(x -> x.change(3, 9)).and(x -> x.wear(0, 1, true));
        recipe.sheet(0, 0, 0, 24).and(x -> x.sheet(1, 2, 64)).and(x -> x.put(1, 63, 2));
        for (int g = 0; g < 8; g++) {
            int key = g - 3;
            int song = g;
            recipe.and(x -> x.song(0, 0, 0, 1)).and(x -> x.key(song, key));
        }
        for (int row = 0; row < 19; row++) {
            recipe.and(x -> x.heard(4095, 1, 2, 28));
        }
        return recipe.and(x -> x.put(1, 1, 1)).and(x -> x.heard(1, 1, 2, 0)).and(x -> x.name(4));
    }
}

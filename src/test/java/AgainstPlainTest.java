import java.lang.reflect.InvocationTargetException;
import java.lang.reflect.Method;
import java.util.ArrayList;
import java.util.HashMap;
import java.util.List;
import java.util.Map;
import java.util.Random;
import java.util.Set;

/** Long runs of calls, the same ones each time, put to the class and to the plain one. */
public final class AgainstPlainTest {
    private static final Check CHECK = new Check("against plain");
    /** An object is used for so many calls at most; what later ones answer is free. */
    private static final int CALLS = 512;
    private static final Set<String> CHANGES = Set.of("string", "tune", "bar", "blank", "felt", "wear", "song", "key",
            "offer", "build", "change", "arrange", "heard", "unhear", "sheet", "lose", "put", "at", "tell", "name", "as");
    private static final int[] EXTREMES = {
        Integer.MIN_VALUE, Integer.MIN_VALUE + 1, -65, -10, -7, -2, -1, 0, 1, 2, 3, 4, 5, 6, 8, 12, 13, 24, 25,
        35, 36, 60, 61, 63, 64, 65, 95, 96, 4095, 4096, 1 << 30, Integer.MAX_VALUE - 1, Integer.MAX_VALUE
    };
    private static final String[] ALL = {
        "string", "tune", "bar", "blank", "felt", "wear", "ofString", "ofBar", "has", "sounds", "classes", "chord",
        "gives", "lack", "hold", "holds", "strum", "song", "step", "key", "misses", "bestKey", "playable", "offer",
        "serves", "fewest", "most", "build", "change", "way", "least", "arrange", "trouble", "grip", "heard", "worn",
        "sure", "unhear", "otherwise", "best", "sheet", "lose", "put", "at", "tell", "name", "as", "trace", "fault",
        "told"
    };

    /** A call with its numbers. */
    private record Asked(String name, Object[] given) {
        @Override
        public String toString() {
            return name + List.of(given);
        }
    }

    private final Map<String, Method> ours = new HashMap<>();
    private final Map<String, Method> plains = new HashMap<>();
    private final Map<String, Map<Long, Integer>> answers = new HashMap<>();
    private FeltZither zither;
    private PlainZither plain;
    private Random random;
    private List<Asked> log;
    private List<Asked> changes;
    private int used;
    private int[] palette;

    private AgainstPlainTest() {
        for (Method method : FeltZither.class.getMethods()) {
            ours.put(method.getName(), method);
        }
        for (String name : ALL) {
            Class<?>[] parameters = ours.get(name).getParameterTypes();
            for (Method method : PlainZither.class.getDeclaredMethods()) {
                if (method.getName().equals(name) && List.of(method.getParameterTypes()).equals(List.of(parameters))) {
                    plains.put(name, method);
                }
            }
        }
    }

    public static void main(String[] args) throws ReflectiveOperationException {
        int rounds = args.length > 0 ? Integer.parseInt(args[0]) : 1;
        AgainstPlainTest test = new AgainstPlainTest();
        for (int seed = 0; seed < 150 * rounds && CHECK.wrong() == 0; seed++) {
            test.smallRun(seed);
            test.songRun(seed);
            test.wildRun(seed);
            test.sheetRun(seed);
        }
        for (int seed = 0; seed < 40 * rounds && CHECK.wrong() == 0; seed++) {
            test.frameRun(seed);
        }
        for (int seed = 0; seed < 6 * rounds && CHECK.wrong() == 0; seed++) {
            test.largeRun(seed);
        }
        test.manyAnswersWereSeen();
        CHECK.finish();
    }

    private void begin(int seed) {
        random = new Random(seed);
        zither = new FeltZither();
        plain = new PlainZither();
        used = 0;
        log = new ArrayList<>();
        changes = new ArrayList<>();
        palette = new int[3 + random.nextInt(5)];
        int root = random.nextInt(12);
        for (int k = 0; k < palette.length; k++) {
            int near = new int[] {0, 0, 5, 7, 9, 3, 4}[random.nextInt(7)];
            palette[k] = 12 * random.nextInt(8) + (root + near) % 12;
        }
    }

    /** The answer that both give; a call that only one of them gives is told with all calls so far. */
    private long call(String name, int... arguments) throws ReflectiveOperationException {
        Class<?>[] types = ours.get(name).getParameterTypes();
        Object[] given = new Object[types.length];
        for (int k = 0; k < types.length; k++) {
            given[k] = types[k] == boolean.class ? (Object) (arguments[k] != 0) : (Object) arguments[k];
        }
        if (used == CALLS) {
            renew();
        }
        Asked asked = new Asked(name, given);
        log.add(asked);
        if (CHANGES.contains(name)) {
            changes.add(asked);
        }
        long want = ((Number) plains.get(name).invoke(plain, given)).longValue();
        if (used < CALLS) {
            long got = ask(asked);
            CHECK.due(asked.toString(), got, want);
            if (got != want) {
                System.out.println("after " + log);
            }
        }
        answers.computeIfAbsent(name, key -> new HashMap<>()).merge(want, 1, Integer::sum);
        return want;
    }

    private long ask(Asked asked) throws ReflectiveOperationException {
        used++;
        try {
            return ((Number) ours.get(asked.name()).invoke(zither, asked.given())).longValue();
        } catch (InvocationTargetException e) {
            throw new IllegalStateException(log.toString(), e.getCause());
        }
    }

    /** A new object, brought by the calls that change something to where the one that is used up was. */
    private void renew() throws ReflectiveOperationException {
        if (changes.size() < CALLS) {
            zither = new FeltZither();
            used = 0;
            for (Asked change : changes) {
                ask(change);
            }
        }
    }

    private int below(int bound) {
        return random.nextInt(bound);
    }

    /** Mostly one of 0 .. many - 1, at times one beyond on either side. */
    private int number(int many) {
        return below(12) == 0 ? (below(2) == 0 ? -1 : many) : below(Math.max(many, 1));
    }

    private int set(int many) {
        return below(15) == 0 ? 1 << many + below(3) | below(1 << many) : below(1 << many);
    }

    private int chord() {
        return below(20) == 0 ? number(96) : palette[below(palette.length)];
    }

    private void strings(int many, int lowest, int width) throws ReflectiveOperationException {
        for (int s = 0; s < many; s++) {
            call("string", lowest + below(width), below(7) == 0 ? 1 : 0);
        }
    }

    /** Chords of one root of which some are what two others have in common. */
    private void takeKindredChords() {
        int root = below(12);
        palette = new int[4 + below(3)];
        for (int k = 0; k < palette.length; k++) {
            int sort = new int[] {0, 0, 2, 6, 3, 1}[below(6)];
            int above = sort == 3 || sort == 1 ? 9 : new int[] {0, 0, 7, 5}[below(4)];
            palette[k] = 12 * sort + (root + above) % 12;
        }
    }

    private void writeSong(int sheet, int steps) throws ReflectiveOperationException {
        int lane = below(3);
        call("sheet", sheet, lane, 2 * steps);
        for (int i = 0; i < steps; i++) {
            call("put", sheet, 2 * i, chord());
            int tones = Math.max(plain.told(0), 1);
            int note = below(3) == 0 ? -1 : plain.ofString(below(tones), 0);
            call("put", sheet, 2 * i + 1, below(20) == 0 ? number(61) : note);
        }
        call("song", sheet, lane, 0, steps);
    }

    /** A row as it might have been heard from the bars as they are, with a mishearing at times. */
    private void hear(int sheet, int odds) throws ReflectiveOperationException {
        int strings = plain.told(0);
        int lane = below(3);
        int i = below(3);
        int set = set(plain.told(2));
        call("sheet", sheet, lane, strings + i);
        for (int s = 0; s < strings; s++) {
            int sounds = plain.sounds(set, s) == 1 ? 1 : 0;
            call("put", sheet, i + s, below(3) == 0 ? 2 : below(odds) == 0 ? 1 - sounds : sounds);
        }
        call("heard", set, sheet, lane, i);
        call("fault");
    }

    private void askAll() throws ReflectiveOperationException {
        for (int what = -1; what <= 7; what++) {
            call("told", what);
        }
        for (int b = -1; b <= plain.told(2); b++) {
            for (int what = -1; what <= 6; what++) {
                call("ofBar", b, what);
            }
            for (int s = -1; s <= plain.told(0); s++) {
                call("has", b, s);
            }
        }
    }

    /** Few strings, bars and felts, so that every way and every set can be tried. */
    private void smallRun(int seed) throws ReflectiveOperationException {
        begin(seed);
        strings(1 + below(5), 20 + below(10), 15);
        for (int b = below(6); b > 0; b--) {
            call("blank");
        }
        for (int k = 0; k < 25; k++) {
            if (plain.howManyFelts() < 10) {
                call("felt", number(plain.told(2)), number(plain.told(0)), below(4));
            }
            call("wear", number(plain.told(2)), number(plain.told(0)), below(2));
        }
        for (int k = below(6); k > 0; k--) {
            hear(below(4), 30);
            askEar();
            if (below(3) == 0) {
                call("felt", number(plain.told(2)), number(plain.told(0)), 0);
                askEar();
            }
        }
        if (below(2) == 0) {
            call("string", 30, 0);
            askEar();
            hear(1, 30);
            askEar();
        }
        call("wear", number(plain.told(2)), number(plain.told(0)), below(2));
        askEar();
        askAll();
        call("unhear");
        call("worn");
    }

    private void askEar() throws ReflectiveOperationException {
        call("worn");
        call("told", 5);
        for (int b = -1; b <= plain.told(2); b++) {
            for (int s = -1; s <= plain.told(0); s++) {
                call("sure", b, s);
            }
        }
    }

    /** Songs and bars of a few chords: holds, keys, offers, ways, trouble, one string otherwise. */
    private void songRun(int seed) throws ReflectiveOperationException {
        begin(1000 + seed);
        int mistuned = 12 + below(4);
        for (int s = 0; s < 12; s++) {
            if (below(12) != 0) {
                call("string", 24 + s + (below(mistuned) == 0 ? below(5) - 2 : 0), below(20) == 0 ? 1 : 0);
            }
        }
        takeKindredChords();
        strings(below(6), 20 + below(10), 14);
        for (int b = 1 + below(6); b > 0; b--) {
            call(below(8) == 0 ? "blank" : "bar", below(8) == 0 ? below(96) : chord());
        }
        call("tune", number(plain.told(0)), 24 + below(12));
        for (int g = 1 + below(3); g > 0; g--) {
            writeSong(below(4), 1 + below(below(2) == 0 ? 3 : 6));
        }
        for (int k = 2 + below(5); k > 0; k--) {
            call("offer", chord());
        }
        askSongs();
        for (int k = 0; k < 6; k++) {
            int act = below(7);
            if (act == 0) {
                call("tune", number(plain.told(0)), number(61));
            } else if (act == 1) {
                call("key", number(plain.told(3)), below(14) - 7);
            } else if (act == 2) {
                call("wear", number(plain.told(2)), number(plain.told(0)), below(2));
            } else if (act == 3) {
                call("felt", number(plain.told(2)), number(plain.told(0)), below(2));
            } else if (act == 4) {
                call("change", number(plain.told(2)), number(plain.told(2)));
            } else if (act == 5 && plain.told(2) < 6) {
                call("bar", chord());
            } else {
                call("arrange");
            }
            askFew();
        }
        call("build", set(plain.told(4)));
        askSongs();
        askAll();
    }

    private void askFew() throws ReflectiveOperationException {
        call("playable");
        call("fewest");
        call("most", number(13));
        call("serves", set(plain.told(4)));
        call("way");
        call("least");
        call("best", below(3));
        call("trouble", number(plain.told(3)));
        call("grip", number(plain.told(3)), number(4));
        call("bestKey", number(plain.told(3)));
        call("classes", set(plain.told(2)));
        call("strum", set(plain.told(2)), number(4));
        call("hold", chord());
    }

    private void askSongs() throws ReflectiveOperationException {
        askFew();
        for (int n = -1; n <= 3; n++) {
            call("holds", n);
            call("best", n);
        }
        for (int m = -1; m <= 13; m += 1 + below(3)) {
            call("most", m);
        }
        for (int g = -1; g <= plain.told(3); g++) {
            call("bestKey", g);
            call("trouble", g);
            for (int what = -1; what <= 5; what++) {
                call("misses", g, what);
            }
            for (int i = -1; i <= Math.max(plain.misses(g, 3), 0); i++) {
                call("grip", g, i);
                for (int what = -1; what <= 4; what++) {
                    call("step", g, i, what);
                }
            }
        }
        for (int s = -1; s <= plain.told(0); s++) {
            call("otherwise", s, below(7) - 3);
            call("ofString", s, below(6) - 1);
            call("sounds", set(plain.told(2)), s);
        }
        for (int chord : palette) {
            call("hold", chord);
            call("lack", chord);
            call("gives", set(plain.told(2)), chord);
            call("chord", chord);
        }
        for (int set = 0; set < 1 << plain.told(4); set += 1 + below(5)) {
            call("serves", set);
        }
    }

    /** Any call with any numbers: no call throws, and refusals and faults come in their order. */
    private void wildRun(int seed) throws ReflectiveOperationException {
        begin(2000 + seed);
        if (seed % 3 != 0) {
            strings(below(5), 0, 61);
            writeSong(0, 1 + below(4));
        }
        int calls = 0;
        while (calls < 380) {
            String name = ALL[below(ALL.length)];
            boolean slow = name.equals("worn") || name.equals("sure") || name.equals("least") || name.equals("arrange")
                    || name.equals("most") || name.equals("fewest") || name.equals("best");
            if (slow && (plain.howManyFelts() > 12 || plain.told(2) > 6 || plain.told(4) > 5)) {
                calls++;
                continue;
            }
            int[] arguments = new int[ours.get(name).getParameterCount()];
            for (int k = 0; k < arguments.length; k++) {
                arguments[k] = below(4) == 0 ? EXTREMES[below(EXTREMES.length)] : below(below(2) == 0 ? 4 : 66);
            }
            call(name, arguments);
            call("fault");
            calls++;
        }
        call("trace");
    }

    /** Songs whose chords all have a hold, so that hands go to and fro. */
    private void frameRun(int seed) throws ReflectiveOperationException {
        begin(4000 + seed);
        for (int s = 0; s < 12; s++) {
            call("string", 24 + s, 0);
        }
        palette = new int[2 + below(5)];
        for (int k = 0; k < palette.length; k++) {
            palette[k] = 12 * below(7) + below(12);
            call("bar", palette[k]);
        }
        for (int g = 1 + below(3); g > 0; g--) {
            writeSong(below(4), 2 + below(10));
        }
        for (int k = 0; k < 4; k++) {
            call("way");
            call("least");
            call("change", below(palette.length), below(palette.length));
        }
        call("arrange");
        call("way");
        call("arrange");
        for (int b = 0; b < palette.length; b++) {
            call("ofBar", b, 5);
        }
        for (int i = 0; i < plain.misses(0, 3); i++) {
            call("grip", 0, i);
        }
    }

    private void sheetRun(int seed) throws ReflectiveOperationException {
        begin(5000 + seed);
        for (int k = 0; k < 60; k++) {
            int sheet = number(4);
            int act = below(12);
            if (act == 0) {
                call("lose", sheet);
            } else if (act < 4) {
                call("sheet", sheet, number(3), below(4) == 0 ? number(65) : below(6));
            } else {
                int i = number(6);
                call("put", sheet, i, below(3) == 0 ? EXTREMES[below(EXTREMES.length)] : random.nextInt());
                for (int lane = 0; lane < 3; lane++) {
                    call("at", sheet, i, lane);
                    call("fault");
                }
            }
            call("fault");
        }
    }

    /** As much of everything as there may be. */
    private void largeRun(int seed) throws ReflectiveOperationException {
        begin(3000 + seed);
        for (int s = 0; s < 37; s++) {
            call("string", seed % 2 == 0 ? 12 + s : below(61), below(9) == 0 ? 1 : 0);
        }
        for (int b = 0; b < 13; b++) {
            call(below(5) == 0 ? "blank" : "bar", chord());
        }
        for (int k = 0; k < 60; k++) {
            call("felt", number(12), number(36), below(2));
            call("wear", number(12), number(36), below(2));
        }
        for (int g = 0; g < 9; g++) {
            writeSong(below(4), g < 2 ? 24 : 1 + below(6));
        }
        for (int k = 0; k < 21; k++) {
            call("sheet", 3, 0, 36);
            call("put", 3, below(36), below(3));
            call("heard", set(12), 3, 0, 0);
        }
        for (int k = 0; k < 40 && plain.told(4) < 7; k++) {
            call("offer", chord());
        }
        call("fewest");
        call("most", 3);
        call("playable");
        call("holds", below(3));
        call("trouble", 0);
        call("grip", 0, 0);
        call("grip", 1, 23);
        call("grip", 1, 12);
        call("way");
        call("bestKey", 0);
        call("otherwise", 35, 1);
        call("strum", set(12), 3);
        for (int k = 0; k < 40; k++) {
            call("offer", below(96));
        }
        call("told", 4);
        call("serves", 4095);
        call("build", 4095);
        call("told", 2);
        call("playable");
        call("way");
        askAll();
    }

    /** That the runs were worth it: calls gave answers of several kinds. */
    private void manyAnswersWereSeen() {
        for (String name : ALL) {
            int kinds = answers.getOrDefault(name, Map.of()).size();
            CHECK.holds(name + " gave several answers", kinds >= 3);
        }
        for (String name : List.of("playable", "best", "least", "arrange", "fewest", "most", "worn", "holds", "way")) {
            int ordinary = 0;
            for (Map.Entry<Long, Integer> answer : answers.get(name).entrySet()) {
                ordinary += answer.getKey() > 0 && answer.getKey() != 99 ? answer.getValue() : 0;
            }
            CHECK.holds(name + " often gave more than 0", ordinary >= 20);
        }
        if (Boolean.getBoolean("tell")) {
            for (String name : ALL) {
                System.out.println(name + " " + new java.util.TreeMap<>(answers.get(name)).toString()
                        .replaceAll("(?s)^(.{300}).*", "$1 .."));
            }
        }
    }
}

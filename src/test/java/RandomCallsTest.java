import java.util.Arrays;
import java.util.List;
import java.util.Random;

/**
 * Long runs of calls with likely and with wild arguments: nothing but the document's exceptions
 * comes out, the same calls answer the same, and what throws off the line changes nothing.
 */
public final class RandomCallsTest {
    private static final int[] WILD = {
        Integer.MIN_VALUE, Integer.MIN_VALUE + 1, -65536, -257, -2, -1, 64, 255, 256, 319, 65536,
        Integer.MAX_VALUE - 1, Integer.MAX_VALUE
    };
    private static final String[] NAMES = {
        "load", "fault", "request", "byteAt", "rule", "save", "unwind", "frame", "operation",
        "drop", "evaluate", "count"
    };
    private static final List<List<String>> THROWN = List.of(
            List.of(),
            List.of(Check.IAE, Check.ISE),
            List.of(Check.IAE, Check.UOE),
            List.of(),
            List.of(Check.IAE, Check.ISE),
            List.of(Check.ISE, Check.IAE),
            List.of(Check.UOE),
            List.of(Check.IOOBE),
            List.of(Check.IAE, Check.ISE),
            List.of(),
            List.of(Check.IOOBE, Check.ISE, Check.ARITHMETIC, Check.IAE, Check.UOE),
            List.of());
    // How often each call comes in a run: the machine above all, faults above all, expressions.
    private static final int[][] MOODS = {
        {8, 1, 20, 3, 1, 1, 1, 3, 3, 1, 2, 3},
        {2, 30, 8, 3, 1, 1, 1, 3, 1, 1, 2, 3},
        {2, 2, 4, 1, 2, 2, 2, 1, 30, 6, 12, 1},
    };

    private final Check check = new Check();
    private final int[] met = new int[NAMES.length];

    public static void main(String[] args) {
        RandomCallsTest test = new RandomCallsTest();
        for (int seed = 0; seed < 3000; seed++) {
            test.runOf512(seed);
        }
        for (int name = 0; name < NAMES.length; name++) {
            test.check.due(NAMES[name] + " met its exceptions",
                    Integer.bitCount(test.met[name]), THROWN.get(name).size());
        }
        test.check.end();
    }

    /** The twin makes the same calls, but for those that throw off the line: it must not matter. */
    private void runOf512(int seed) {
        Random random = new Random(seed);
        LineDebugger x = new LineDebugger();
        LineDebugger twin = new LineDebugger();
        int[] mood = MOODS[seed % MOODS.length];
        int wildness = seed % 5 == 0 ? 3 : 60;
        for (int i = 0; i < 512; i++) {
            int name = nextName(random, mood);
            int[] v = arguments(random, name, wildness);
            String what = "seed " + seed + ", call " + i + ", " + NAMES[name] + Arrays.toString(v);
            String outcome = Check.outcomeOf(() -> call(x, name, v));
            boolean overTheLine = name == 2 || name == 6 || name == 10;
            if (!outcome.endsWith("Exception") || overTheLine) {
                check.due(what, outcome, Check.outcomeOf(() -> call(twin, name, v)));
            }
            if (outcome.endsWith("Exception")) {
                checkThrown(what, name, outcome);
            }
        }
    }

    private void checkThrown(String what, int name, String outcome) {
        int index = THROWN.get(name).indexOf(outcome);
        check.due(what + " throws " + outcome, index >= 0, true);
        met[name] |= index >= 0 ? 1 << index : 0;
    }

    private static int nextName(Random random, int[] mood) {
        int pick = random.nextInt(Arrays.stream(mood).sum());
        int name = 0;
        while (pick >= mood[name]) {
            pick -= mood[name];
            name++;
        }
        return name;
    }

    private static int[] arguments(Random random, int name, int wildness) {
        int[] v = new int[4];
        for (int i = 0; i < 4; i++) {
            v[i] = random.nextInt(random.nextBoolean() ? 10 : 70) - random.nextInt(2);
            boolean isWord = name == 0 && i == 1 || name == 2 && i == 2;
            if (isWord && random.nextBoolean()) {
                v[i] = v[i] << 16 | random.nextInt(1 << 13);
            }
            if (random.nextInt(wildness) == 0) {
                v[i] = WILD[random.nextInt(WILD.length)];
            }
        }
        return v;
    }

    private static int call(LineDebugger x, int name, int[] v) {
        switch (name) {
            case 0: return x.load(v[0], v[1]) ? 1 : 0;
            case 1: return x.fault(v[0]);
            case 2: return x.request(v[0] % 11, v[1], v[2]);
            case 3: return x.byteAt(v[0]);
            case 4: return x.rule(v[0], v[1], v[2] % 17, v[3] % 17);
            case 5: x.save(v[0] % 9, v[1] % 17); return 0;
            case 6: return x.unwind();
            case 7: return x.frame(v[0] % 9, v[1]);
            case 8: return x.operation(v[0] % 12, v[1] % 9);
            case 9: return x.drop();
            case 10: return x.evaluate(v[0] % 3);
            default: return x.count(v[0] % 11);
        }
    }
}

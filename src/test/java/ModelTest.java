import java.util.Arrays;
import java.util.Random;

/** Random runs of calls, each answer held against the model's; half of them for all the calls of an object's life. */
public final class ModelTest {
    private static final int RUNS = 4000;
    private static final int LIFE = 512;
    /** So many calls ask for the whole state; the runs that end with it are shorter by these. */
    private static final int CALLS_FOR_ALL = 263;
    private static final String[] ACTS = {"give", "take", "swap", "arrive"};
    private static final String[] ASKS = {"got", "thread", "channel", "item", "stay", "time"};
    private static final double[] LIMITS = {0.0, -1.0, -0.5, 0.5, 1.0, 1.5, 2.0, 3.0, 0.1, 0.3, 1000.0, -0.0};
    private static final double[] XS = {0.0, -0.0, 0.5, 1.0, 1.5, 2.0, 3.0, 0.1, 0.3, -1.0, -2.0, 1000.0, -1000.0};
    private static final double[] STEPS = {0.0, 0.5, 1.0, 0.1, 0.2, 2.0, 5.0};
    private static final double[] ODD = {-2.0, 1000.5, Double.NaN, Double.POSITIVE_INFINITY, -1000.5};

    public static void main(String[] args) {
        for (int seed = 0; seed < RUNS; seed++) {
            if (!run(seed)) {
                break;
            }
        }
        Runs.end();
    }

    private static boolean run(int seed) {
        Random random = new Random(seed);
        ChannelHall hall = new ChannelHall();
        Model model = new Model();
        int[] kinds = new int[8];
        // Few channels, so that the threads meet.
        int channels = 1 + random.nextInt(4);
        for (int c = 0; c < channels; c++) {
            kinds[c] = random.nextInt(7);
            int a = kinds[c] == 0 ? 1 + random.nextInt(4) : kinds[c] == 6 ? 2 + random.nextInt(4) : 0;
            if (!agree(seed, hall, model, "make", c, kinds[c], a)) {
                return false;
            }
        }
        boolean asksForAll = seed % 2 == 0;
        int calls = LIFE - channels - (asksForAll ? CALLS_FOR_ALL : 0);
        for (int i = 0; i < calls; i++) {
            if (!oneCall(seed, random, hall, model, kinds, channels)) {
                return false;
            }
        }
        return !asksForAll || agreeOnAll(seed, hall, model);
    }

    private static boolean oneCall(int seed, Random random, ChannelHall hall, Model model, int[] kinds, int channels) {
        int t = random.nextInt(40) == 0 ? random.nextInt(9) - 1 : random.nextInt(6);
        int c = random.nextInt(40) == 0 ? random.nextInt(10) - 1 : random.nextInt(channels);
        double limit = random.nextInt(60) == 0 ? pick(random, ODD) : pick(random, LIMITS);
        int dice = random.nextInt(100);
        if (dice < 60) {
            String act = fitting(random, c >= 0 && c < 8 ? kinds[c] : 0);
            int value = random.nextInt(1000);
            return switch (act) {
                case "give" -> agree(seed, hall, model, act, t, c, value,
                        random.nextInt(60) == 0 ? pick(random, ODD) : pick(random, XS), limit);
                case "swap" -> agree(seed, hall, model, act, t, c, value, limit);
                default -> agree(seed, hall, model, act, t, c, limit);
            };
        }
        if (dice < 68) {
            return agree(seed, hall, model, "tick", random.nextInt(40) == 0 ? pick(random, ODD) : pick(random, STEPS));
        }
        if (dice < 72) {
            return agree(seed, hall, model, "interrupt", t);
        }
        if (dice < 74) {
            return agree(seed, hall, model, "reset", c);
        }
        if (dice < 75) {
            return agree(seed, hall, model, "make", random.nextInt(10) - 1, random.nextInt(9) - 1, random.nextInt(7) - 1);
        }
        String ask = ASKS[random.nextInt(ASKS.length)];
        return switch (ask) {
            case "got" -> agree(seed, hall, model, ask, t);
            case "thread" -> agree(seed, hall, model, ask, t, random.nextInt(6) - 1);
            case "channel" -> agree(seed, hall, model, ask, c, random.nextInt(13) - 1);
            case "item" -> agree(seed, hall, model, ask, c, random.nextInt(8) - 1);
            case "stay" -> agree(seed, hall, model, ask, c);
            default -> agree(seed, hall, model, ask);
        };
    }

    private static String fitting(Random random, int kind) {
        if (random.nextInt(20) == 0) {
            return ACTS[random.nextInt(ACTS.length)];
        }
        return kind == 5 ? "swap" : kind == 6 ? "arrive" : random.nextInt(100) < 55 ? "give" : "take";
    }

    private static double pick(Random random, double[] row) {
        return row[random.nextInt(row.length)];
    }

    private static boolean agree(int seed, ChannelHall hall, Model model, String name, double... a) {
        String got = Runs.answer(hall, name, a);
        String due = model.answer(name, a);
        if (!Runs.same(got, due)) {
            Runs.fail("seed " + seed + ": " + name + Arrays.toString(a) + " answered " + got + ", the model " + due);
            return false;
        }
        return true;
    }

    private static boolean agreeOnAll(int seed, ChannelHall hall, Model model) {
        boolean same = agree(seed, hall, model, "time");
        for (int t = 0; t < 6; t++) {
            same &= agree(seed, hall, model, "got", t);
            for (int what = 0; what < 4; what++) {
                same &= agree(seed, hall, model, "thread", t, what);
            }
        }
        for (int c = 0; c < 8; c++) {
            same &= agree(seed, hall, model, "stay", c);
            for (int what = 0; what < 11; what++) {
                same &= agree(seed, hall, model, "channel", c, what);
            }
            for (int i = 0; i < 17; i++) {
                same &= agree(seed, hall, model, "item", c, i);
            }
        }
        return same;
    }
}

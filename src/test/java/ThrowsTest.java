import java.util.List;

/** A call that throws changes nothing: neither what can be asked at once, nor what comes of it later. */
public final class ThrowsTest {
    private static final String[] BEFORE = {
        "make(0, 0, 1)", "make(1, 2, 0)", "make(2, 4, 0)", "make(3, 5, 0)", "make(4, 6, 3)", "make(5, 6, 2)",
        "tick(1.0)", "give(0, 0, 1, 0.0, 0.0)", "give(1, 0, 2, 0.0, 2.0)", "take(2, 1, 3.0)",
        "give(0, 2, 3, 1.0, 0.0)", "take(3, 2, 5.0)", "arrive(4, 4, 4.0)", "arrive(0, 5, 0.0)",
        "interrupt(0)", "interrupt(5)",
    };
    private static final String[] WRONG = {
        "make(8, 1, 0)", "make(7, 0, 5)", "make(7, 9, 0)", "make(0, 0, 1)", "make(4, 1, 0)",
        "give(6, 0, 9, 0.0, 0.0)", "give(0, 8, 9, 0.0, 0.0)", "give(0, 0, 9, 1001.0, 1.0)",
        "give(0, 0, 9, NaN, 1.0)", "give(0, 0, 9, 0.0, 1001.0)", "give(0, 7, 9, 0.0, 0.0)",
        "give(1, 2, 9, 0.0, 1.0)", "give(0, 3, 9, 0.0, 1.0)", "give(0, 4, 9, 0.0, 1.0)",
        "take(-1, 0, 0.0)", "take(0, -1, 0.0)", "take(0, 0, -2.0)", "take(0, 0, NaN)", "take(0, 6, 0.0)",
        "take(2, 0, 0.0)", "take(0, 3, 0.0)", "take(0, 5, 0.0)",
        "swap(6, 3, 1, 1.0)", "swap(0, 3, 1, -2.0)", "swap(0, 6, 1, 1.0)", "swap(3, 3, 1, 1.0)",
        "swap(0, 0, 1, 1.0)", "swap(0, 4, 1, 1.0)",
        "arrive(0, 4, 1001.0)", "arrive(0, 7, 1.0)", "arrive(4, 4, 1.0)", "arrive(4, 5, 1.0)",
        "arrive(0, 3, 1.0)", "arrive(0, 5, 1.0)", "arrive(5, 5, 0.0)",
        "reset(8)", "reset(6)", "reset(3)", "interrupt(6)", "interrupt(-1)",
        "tick(-1.0)", "tick(1001.0)", "tick(NaN)",
        "got(6)", "got(1)", "thread(6, 0)", "thread(0, 4)", "channel(8, 0)", "channel(0, 11)", "channel(7, 0)",
        "item(8, 0)", "item(7, 0)", "item(0, 1)", "item(0, -1)", "stay(8)", "stay(7)", "stay(0)",
    };

    public static void main(String[] args) {
        ChannelHall hall = new ChannelHall();
        for (String call : BEFORE) {
            if (Runs.answer(hall, call).startsWith("throws.")) {
                Runs.fail(call + " throws before the wrong call");
            }
        }
        for (String wrong : WRONG) {
            // None of them changes anything, so all can be called on one object, one behind the other.
            if (!Runs.answer(hall, wrong).startsWith("throws.")) {
                Runs.fail(wrong + " does not throw");
            }
            Unchanged.check("a call that throws", List.of(BEFORE), wrong);
        }
        Runs.end();
    }
}

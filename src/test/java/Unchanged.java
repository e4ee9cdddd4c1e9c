import java.util.HashMap;
import java.util.List;
import java.util.Map;

/** A call that throws changes nothing: neither what can be asked at once, nor what comes of it later. */
final class Unchanged {
    /** So few that all that is asked behind them still falls into the calls that an object is used for. */
    private static final int MOST_BEFORE = 240;

    private static final Map<List<String>, String> SEEN = new HashMap<>();

    private Unchanged() {
    }

    static void check(String title, List<String> before, String refused) {
        if (before.size() > MOST_BEFORE) {
            Runs.fail(title + ": " + refused + " comes too late in the run to be looked at");
        }
        String due = SEEN.computeIfAbsent(List.copyOf(before), calls -> all(calls, null));
        if (!all(before, refused).equals(due)) {
            Runs.fail(title + ": " + refused + " throws and changed something");
        }
    }

    private static String all(List<String> before, String refused) {
        return Snapshot.of(hall(before, refused)) + Snapshot.ofTakes(hall(before, refused))
                + Snapshot.ofTicks(hall(before, refused));
    }

    private static ChannelHall hall(List<String> before, String refused) {
        ChannelHall hall = new ChannelHall();
        for (String call : before) {
            Runs.answer(hall, call);
        }
        if (refused != null) {
            Runs.answer(hall, refused);
        }
        return hall;
    }
}

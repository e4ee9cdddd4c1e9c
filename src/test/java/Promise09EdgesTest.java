/** tick, at the edges. */
public final class Promise09EdgesTest {
    public static void main(String[] args) {
        by();
        endJustAtG();
        endJustAtTime();
        lateAtEveryKind();
        dueJustAtG();
        dueAndEndTogether();
        severalMoments();
        giversBehindTakers();
        allSixAtOnce();
        byRisingThreads();
        barriers();
        howManyWereLate();
        timeIsG();
        whatIsNoMoment();
        Runs.end();
    }

    private static void by() {
        Cross.check("by 0.0 .. 1000.0", "make(0, 4, 0) = 1; give(0, 0, 1, 1.0, 0.0) = 1; take(1, 0, 1.0) = 0; tick(0.5) = 0",
            "tick", "0.0 -0.0 4.9E-324 1000.0 IAE -4.9E-324 1000.0000000000001 NaN Infinity -Infinity -1.0 1001.0");
    }

    private static void endJustAtG() {
        Runs.check("not above G: an END that is just G, one a moment above it, one a moment below", """
            make(0, 1, 0) = 1
            take(0, 0, 1.0) = 0
            take(1, 0, 1.0000000000000002) = 0
            take(2, 0, 0.9999999999999999) = 0
            tick(1.0) = 2
            thread(0, 1) = 2; thread(1, 1) = 0; thread(2, 1) = 2; time() = 1.0
            thread(0, 0) = 0; thread(0, 3) = -1; thread(1, 0) = 1
            tick(0.0) = 0
            tick(2.220446049250313E-16) = 1; thread(1, 1) = 2
            """);
        Runs.check("not above G: an END is at TIME plus limit, whatever TIME is", """
            make(0, 1, 0) = 1
            tick(1000.0) = 0
            take(0, 0, 1000.0) = 0
            tick(999.0) = 0
            take(1, 0, 1.0) = 0
            tick(0.5) = 0
            take(2, 0, 0.5) = 0
            tick(0.5) = 3
            time() = 2000.0
            """);
    }

    private static void endJustAtTime() {
        Runs.check("an END that is just TIME, since the limit is too small to be seen: LATE at tick 0.0", """
            make(0, 1, 0) = 1; make(1, 6, 2) = 2
            tick(1000.0) = 0
            take(0, 0, 1.0E-14) = 0; thread(0, 0) = 1
            arrive(1, 1, 4.9E-324) = 0; channel(1, 3) = 1
            take(2, 0, -1.0) = 0
            tick(0.0) = 2
            thread(0, 1) = 2; thread(1, 1) = 2; thread(2, 1) = 0; channel(1, 3) = 0; time() = 1000.0
            """);
        Runs.check("an END that is just TIME: LATE at a longer tick too, only once", """
            make(0, 1, 0) = 1
            tick(1000.0) = 0
            take(0, 0, 1.0E-14) = 0; take(1, 0, 2.0) = 0
            tick(5.0) = 2
            tick(5.0) = 0
            """);
    }

    private static void lateAtEveryKind() {
        String[][] waits = {
            {"make(0, 0, 1) = 1; give(0, 0, 1, 0.0, 0.0) = 1", "give(5, 0, 2, 0.0, 3.0) = 0"},
            {"make(0, 0, 1) = 1", "take(5, 0, 3.0) = 0"},
            {"make(0, 1, 0) = 1", "take(5, 0, 3.0) = 0"},
            {"make(0, 2, 0) = 1", "give(5, 0, 2, 0.0, 3.0) = 0"},
            {"make(0, 2, 0) = 1", "take(5, 0, 3.0) = 0"},
            {"make(0, 3, 0) = 1", "take(5, 0, 3.0) = 0"},
            {"make(0, 4, 0) = 1", "take(5, 0, 3.0) = 0"},
            {"make(0, 5, 0) = 1", "swap(5, 0, 2, 3.0) = 0"},
            {"make(0, 6, 2) = 1", "arrive(5, 0, 3.0) = 0"},
        };
        for (String[] wait : waits) {
            Runs.check("WAITERS whose END is not above TIME wait no more, by LATE: " + wait[1], wait[0] + "\n" + wait[1] + "\n" + """
                tick(2.9999999999999996) = 0
                thread(5, 0) = 1; thread(5, 1) = 0; channel(0, 2) = 1
                tick(4.440892098500626E-16) = 1
                time() = 3.0
                thread(5, 0) = 0; thread(5, 1) = 2; thread(5, 2) = 0; thread(5, 3) = -1
                channel(0, 2) = 0; channel(0, 5) = -1
                tick(9.0) = 0
                """);
        }
        Runs.check("by LATE: a GIVER's ITEM is not IN, the next GIVER's is", """
            make(0, 0, 1) = 1
            give(0, 0, 1, 0.0, 0.0) = 1
            give(1, 0, 2, 0.0, 1.0) = 0; give(2, 0, 3, 0.0, -1.0) = 0
            tick(1.0) = 1
            channel(0, 1) = 1; item(0, 0) = 1; channel(0, 5) = 2
            take(5, 0, 0.0) = 1; item(0, 0) = 3; thread(2, 1) = 1
            """);
    }

    private static void dueJustAtG() {
        Runs.check("not above G: a DUE time that is just G is taken, one a moment above it is not", """
            make(0, 4, 0) = 1; make(1, 4, 0) = 2
            give(0, 0, 7, 1.0, 0.0) = 1; give(0, 1, 8, 1.0000000000000002, 0.0) = 1
            take(1, 0, -1.0) = 0; take(2, 1, -1.0) = 0
            tick(1.0) = 0
            got(1) = 7; thread(1, 1) = 1; thread(1, 0) = 0; channel(0, 1) = 0; stay(0) = 1.0
            thread(2, 1) = 0; channel(1, 1) = 1; channel(1, 3) = 0
            tick(2.220446049250313E-16) = 0
            got(2) = 8; thread(2, 1) = 1
            """);
        Runs.check("not above G: a DUE time that is just G without a TAKER is READY then", """
            make(0, 4, 0) = 1
            give(0, 0, 7, 1.0, 0.0) = 1
            tick(0.5) = 0; channel(0, 3) = 0
            tick(0.5) = 0; channel(0, 3) = 1; channel(0, 1) = 1
            """);
        Runs.check("TAKERS of ITEMS with the same DUE time: as both came", """
            make(0, 4, 0) = 1
            give(0, 0, 7, 1.0, 0.0) = 1; give(0, 0, 8, 1.0, 0.0) = 1; give(0, 0, 9, 1.0, 0.0) = 1
            take(4, 0, -1.0) = 0; take(1, 0, 1.0) = 0
            tick(1.0) = 0
            got(4) = 7; got(1) = 8; item(0, 0) = 9; channel(0, 1) = 1; channel(0, 2) = 0
            """);
    }

    private static void dueAndEndTogether() {
        Runs.check("DELAYED CHANNELS are SERVED, and then WAITERS are LATE: DUE and END at the same time", """
            make(0, 4, 0) = 1
            give(0, 0, 7, 2.0, 0.0) = 1
            take(3, 0, 2.0) = 0; take(1, 0, 2.0) = 0
            tick(2.0) = 1
            thread(3, 1) = 1; got(3) = 7
            thread(1, 1) = 2; got(1) = throws.NoSuchElementException
            """);
        Runs.check("a DUE time a moment above the END comes too late", """
            make(0, 4, 0) = 1
            give(0, 0, 7, 2.0000000000000004, 0.0) = 1
            take(3, 0, 2.0) = 0
            tick(5.0) = 1
            thread(3, 1) = 2; channel(0, 1) = 1; channel(0, 3) = 1
            """);
        Runs.check("a DUE time a moment below the END comes in time", """
            make(0, 4, 0) = 1
            give(0, 0, 7, 1.9999999999999998, 0.0) = 1
            take(3, 0, 2.0) = 0
            tick(5.0) = 0
            thread(3, 1) = 1; got(3) = 7; stay(0) = 1.9999999999999998
            """);
        Runs.check("the first TAKER is LATE before the DUE time, the second one TAKES it", """
            make(0, 4, 0) = 1
            give(0, 0, 7, 2.0, 0.0) = 1
            take(3, 0, 1.0) = 0; take(1, 0, 3.0) = 0
            tick(5.0) = 1
            thread(3, 1) = 2; thread(1, 1) = 1; got(1) = 7; stay(0) = 2.0
            """);
    }

    private static void severalMoments() {
        Runs.check("Again and again: every DUE time and END has its own moment", """
            make(0, 4, 0) = 1; make(7, 4, 0) = 2; make(3, 5, 0) = 3
            give(0, 0, 10, 1.0, 0.0) = 1; give(0, 0, 11, 4.0, 0.0) = 1; give(0, 7, 12, 3.0, 0.0) = 1
            take(1, 0, -1.0) = 0; take(2, 0, 3.5) = 0; take(3, 0, -1.0) = 0; take(4, 7, -1.0) = 0
            swap(5, 3, 1, 2.0) = 0
            tick(10.0) = 2
            got(1) = 10; thread(2, 1) = 2; got(3) = 11; got(4) = 12; thread(5, 1) = 2
            # the times of the moments, not of the end
            stay(0) = 2.5; stay(7) = 3.0; time() = 10.0
            """);
        Runs.check("Again and again: an ITEM that becomes the first is the next to be DUE", """
            make(0, 4, 0) = 1
            give(0, 0, 3, 3.0, 0.0) = 1; give(0, 0, 1, 1.0, 0.0) = 1; give(0, 0, 2, 2.0, 0.0) = 1
            take(5, 0, -1.0) = 0; take(4, 0, -1.0) = 0; take(3, 0, -1.0) = 0
            tick(3.0) = 0
            got(5) = 1; got(4) = 2; got(3) = 3; stay(0) = 2.0
            """);
        Runs.check("Again and again: in one tick as in many", """
            make(0, 4, 0) = 1
            give(0, 0, 3, 3.0, 0.0) = 1; give(0, 0, 1, 1.0, 0.0) = 1
            take(5, 0, 2.0) = 0; take(4, 0, 2.0) = 0; take(3, 0, 4.0) = 0
            tick(0.5) = 0; tick(0.5) = 0; got(5) = 1; thread(4, 1) = 0
            tick(1.0) = 1; thread(4, 1) = 2; thread(3, 1) = 0
            tick(1.0) = 0; got(3) = 3; stay(0) = 2.0
            """);
    }

    private static void giversBehindTakers() {
        String full = """
            make(0, 4, 0) = 1
            give(0, 0, 1, 2.0, 0.0) = 1
            give(0, 0, 2, 90.0, 0.0) = 1; give(0, 0, 3, 90.0, 0.0) = 1; give(0, 0, 4, 90.0, 0.0) = 1
            give(0, 0, 5, 90.0, 0.0) = 1; give(0, 0, 6, 90.0, 0.0) = 1
            """;
        Runs.check("a GIVER whose END is just when there is ROOM is served, not LATE", full + """
            give(0, 0, 7, 50.0, 2.0) = 0
            take(1, 0, -1.0) = 0
            tick(2.0) = 0
            thread(0, 1) = 1; got(1) = 1; channel(0, 1) = 6; channel(0, 2) = 0; item(0, 0) = 7
            """);
        Runs.check("a GIVER whose END is a moment before there is ROOM is LATE", full + """
            give(0, 0, 7, 50.0, 1.9999999999999998) = 0
            take(1, 0, -1.0) = 0
            tick(2.0) = 1
            thread(0, 1) = 2; got(1) = 1; channel(0, 1) = 5; item(0, 0) = 2
            """);
        Runs.check("a GIVER's ITEM that is DUE already is taken at the same moment", full + """
            give(0, 0, 7, 1.0, -1.0) = 0
            take(1, 0, 2.0) = 0; take(2, 0, 2.0) = 0
            tick(2.0) = 0
            got(1) = 1; got(2) = 7; thread(0, 1) = 1; channel(0, 1) = 5; stay(0) = 1.0
            """);
        Runs.check("a GIVER's ITEM that is DUE later is taken at a later moment of the same tick", full + """
            give(0, 0, 7, 5.0, -1.0) = 0
            take(1, 0, 2.0) = 0; take(2, 0, 5.0) = 0
            tick(5.0) = 0
            got(1) = 1; got(2) = 7; thread(0, 1) = 1
            # IN from 2.0 to 5.0, the first one from 0.0 to 2.0
            stay(0) = 2.5
            """);
        Runs.check("a GIVER's ITEM that is DUE above G is not taken", full + """
            give(0, 0, 7, 5.000000000000001, -1.0) = 0
            take(1, 0, 2.0) = 0; take(2, 0, 5.0) = 0
            tick(5.0) = 1
            got(1) = 1; thread(2, 1) = 2; thread(0, 1) = 1; item(0, 0) = 7; channel(0, 3) = 0
            """);
    }

    private static void allSixAtOnce() {
        Runs.check("SERVED again and again: six TAKERS and six ITEMS with the same DUE time", """
            make(7, 4, 0) = 1
            give(0, 7, 10, 2.0, 0.0) = 1; give(0, 7, 11, 2.0, 0.0) = 1; give(0, 7, 12, 2.0, 0.0) = 1
            give(0, 7, 13, 2.0, 0.0) = 1; give(0, 7, 14, 2.0, 0.0) = 1; give(0, 7, 15, 2.0, 0.0) = 1
            take(5, 7, -1.0) = 0; take(4, 7, 2.0) = 0; take(3, 7, -1.0) = 0
            take(2, 7, 2.0) = 0; take(1, 7, -1.0) = 0; take(0, 7, 9.0) = 0
            tick(2.0) = 0
            got(5) = 10; got(4) = 11; got(3) = 12; got(2) = 13; got(1) = 14; got(0) = 15
            channel(7, 1) = 0; channel(7, 2) = 0; stay(7) = 2.0
            """);
        Runs.check("SERVED again and again: three TAKERS and three GIVERS at one moment", """
            make(7, 4, 0) = 1
            give(0, 7, 10, 2.0, 0.0) = 1; give(0, 7, 11, 90.0, 0.0) = 1; give(0, 7, 12, 90.0, 0.0) = 1
            give(0, 7, 13, 90.0, 0.0) = 1; give(0, 7, 14, 90.0, 0.0) = 1; give(0, 7, 15, 90.0, 0.0) = 1
            give(0, 7, 20, 0.0, -1.0) = 0; take(5, 7, -1.0) = 0; give(1, 7, 21, 2.0, -1.0) = 0
            take(4, 7, -1.0) = 0; give(2, 7, 22, 3.0, -1.0) = 0; take(3, 7, 2.0) = 0
            tick(2.0) = 0
            got(5) = 10; got(4) = 20; got(3) = 21; item(7, 0) = 22; channel(7, 1) = 6; channel(7, 2) = 0
            thread(0, 1) = 1; thread(1, 1) = 1; thread(2, 1) = 1
            """);
        Runs.check("Again and again: six moments in one tick", """
            make(7, 4, 0) = 1
            give(0, 7, 10, 1.0, 0.0) = 1; give(0, 7, 11, 3.0, 0.0) = 1; give(0, 7, 12, 5.0, 0.0) = 1
            take(5, 7, -1.0) = 0; take(4, 7, 2.0) = 0; take(3, 7, -1.0) = 0; take(2, 7, 4.0) = 0
            take(1, 7, -1.0) = 0; take(0, 7, 6.0) = 0
            tick(6.0) = 3
            got(5) = 10; got(3) = 11; got(1) = 12; stay(7) = 3.0
            thread(4, 1) = 2; thread(2, 1) = 2; thread(0, 1) = 2
            """);
    }

    private static void byRisingThreads() {
        Runs.check("by rising THREADS: the lowest breaks the BARRIER, however they came", """
            make(0, 6, 5) = 1
            arrive(5, 0, 2.0) = 0; arrive(2, 0, 2.0) = 0; arrive(4, 0, 2.0) = 0; arrive(3, 0, -1.0) = 0
            tick(2.0) = 1
            thread(2, 1) = 2; thread(3, 1) = 4; thread(4, 1) = 4; thread(5, 1) = 4
            """);
        Runs.check("by rising THREADS: one with a later END is BROKEN, not LATE, though it is the lowest", """
            make(0, 6, 5) = 1
            arrive(0, 0, 2.0000000000000004) = 0; arrive(4, 0, 2.0) = 0
            tick(9.0) = 1
            thread(0, 1) = 4; thread(4, 1) = 2
            """);
        Runs.check("by rising THREADS: at several CHANNELS at the same time", """
            make(0, 6, 3) = 1; make(1, 6, 3) = 2; make(2, 5, 0) = 3; make(3, 2, 0) = 4
            arrive(5, 0, 1.0) = 0; arrive(4, 1, 1.0) = 0; arrive(3, 0, 1.0) = 0; arrive(2, 1, 1.0) = 0
            swap(1, 2, 1, 1.0) = 0; take(0, 3, 1.0) = 0
            tick(1.0) = 4
            thread(0, 1) = 2; thread(1, 1) = 2; thread(2, 1) = 2; thread(3, 1) = 2; thread(4, 1) = 4; thread(5, 1) = 4
            """);
    }

    private static void barriers() {
        Runs.check("of a BARRIER: who is BROKEN is not counted as LATE and is not LATE later", """
            make(0, 6, 5) = 1
            arrive(0, 0, 3.0) = 0; arrive(1, 0, 1.0) = 0; arrive(2, 0, 2.0) = 0; arrive(3, 0, -1.0) = 0
            tick(5.0) = 1
            thread(0, 1) = 4; thread(1, 1) = 2; thread(2, 1) = 4; thread(3, 1) = 4
            channel(0, 2) = 0; channel(0, 3) = 0; channel(0, 4) = 0
            """);
        Runs.check("of a BARRIER: its WAITERS without an END wait on for ever", """
            make(0, 6, 3) = 1
            arrive(0, 0, -1.0) = 0; arrive(1, 0, -1.0) = 0
            tick(1000.0) = 0; tick(1000.0) = 0
            channel(0, 2) = 2; channel(0, 3) = 1
            """);
    }

    private static void howManyWereLate() {
        for (int late = 0; late <= 6; late++) {
            StringBuilder run = new StringBuilder("make(0, 2, 0) = 1\n");
            for (int t = 0; t < 6; t++) {
                run.append("take(" + t + ", 0, " + (t < late ? 1.0 + t : 7.0) + ") = 0\n");
            }
            run.append("tick(6.5) = " + late + "; channel(0, 2) = " + (6 - late) + "\n");
            run.append("tick(0.5) = " + (6 - late) + "; channel(0, 2) = 0\n");
            Runs.check("Answers how many were LATE: " + late, run.toString());
        }
        Runs.check("Answers how many were LATE: six at one time", """
            make(0, 2, 0) = 1
            take(0, 0, 1.0) = 0; take(1, 0, 1.0) = 0; take(2, 0, 1.0) = 0
            take(3, 0, 1.0) = 0; take(4, 0, 1.0) = 0; take(5, 0, 1.0) = 0
            tick(1.0) = 6
            """);
    }

    private static void timeIsG() {
        Runs.check("Then TIME is G, TIME plus that at the start, not summed up over the moments", """
            make(0, 2, 0) = 1
            tick(0.1) = 0
            take(0, 0, 0.1) = 0
            tick(0.7) = 1
            time() = 0.7999999999999999
            """);
        Runs.check("Then TIME is G: not summed up over a DUE time and an END either", """
            make(0, 4, 0) = 1
            tick(0.1) = 0
            give(0, 0, 1, 0.1, 0.0) = 1; take(1, 0, -1.0) = 0; take(2, 0, 0.2) = 0
            tick(2.3) = 1
            got(1) = 1
            time() = 2.4
            """);
        Runs.check("Then TIME is G: also if nothing was to be done", """
            tick(0.0) = 0; time() = 0.0
            tick(4.9E-324) = 0; time() = 4.9E-324
            tick(1000.0) = 0; time() = 1000.0
            tick(1000.0) = 0; time() = 2000.0
            tick(0.0) = 0; time() = 2000.0
            """);
        Runs.check("TIME becomes that if it is above TIME: it never goes back", """
            make(0, 4, 0) = 1; make(1, 2, 0) = 2
            tick(1000.0) = 0
            give(0, 0, 1, 0.0, 0.0) = 1
            take(0, 1, 1.0E-14) = 0
            tick(0.0) = 1
            time() = 1000.0
            take(2, 0, 0.0) = 1; stay(0) = 0.0
            """);
    }

    private static void whatIsNoMoment() {
        Runs.check("a DUE time at which no TAKERS wait, or of an ITEM that is READY, changes nothing", """
            make(0, 4, 0) = 1; make(1, 4, 0) = 2; make(2, 2, 0) = 3
            give(0, 0, 1, 1.0, 0.0) = 1; give(0, 1, 2, 0.0, 0.0) = 1
            take(1, 2, 2.0) = 0
            tick(5.0) = 1
            channel(0, 1) = 1; channel(1, 1) = 1; time() = 5.0
            take(2, 0, 0.0) = 1; stay(0) = 5.0
            take(2, 1, 0.0) = 1; stay(1) = 5.0
            """);
        Runs.check("a GIVER that waits at a full DELAYED CHANNEL is no TAKER", """
            make(0, 4, 0) = 1
            give(0, 0, 1, 1.0, 0.0) = 1; give(0, 0, 2, 1.0, 0.0) = 1; give(0, 0, 3, 1.0, 0.0) = 1
            give(0, 0, 4, 1.0, 0.0) = 1; give(0, 0, 5, 1.0, 0.0) = 1; give(0, 0, 6, 1.0, 0.0) = 1
            give(0, 0, 7, 0.0, -1.0) = 0
            tick(5.0) = 0
            channel(0, 1) = 6; channel(0, 2) = 1; channel(0, 3) = 1; thread(0, 0) = 1
            """);
        Runs.check("FLAGS, RUNNING THREADS and CHANNELS of other KINDS stay as they are", """
            make(0, 0, 2) = 1; make(1, 3, 0) = 2; make(2, 6, 2) = 3
            give(0, 0, 1, 5.0, 0.0) = 1; give(0, 1, 2, 5.0, 0.0) = 1
            interrupt(1) = -1
            tick(1000.0) = 0
            thread(1, 2) = 1; thread(0, 1) = 1; item(0, 0) = 1; item(1, 0) = 2; channel(2, 3) = 1
            """);
    }
}

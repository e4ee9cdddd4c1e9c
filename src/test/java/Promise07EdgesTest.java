/** reset, at the edges. */
public final class Promise07EdgesTest {
    public static void main(String[] args) {
        whatIsThrown();
        everyNumberOfWaiters();
        itIsWhole();
        whatItLeavesAlone();
        Runs.end();
    }

    private static void whatIsThrown() {
        Cross.check("reset: what is thrown, in this order", """
            make(0, 0, 1) = 1; make(1, 1, 0) = 2; make(2, 2, 0) = 3; make(3, 3, 0) = 4; make(4, 4, 0) = 5
            make(5, 5, 0) = 6; make(6, 6, 2) = 7
            give(0, 0, 1, 0.0, 0.0) = 1; give(0, 0, 1, 0.0, 2.0) = 0; take(1, 1, 2.0) = 0
            give(2, 2, 1, 0.0, 2.0) = 0; take(3, 3, 2.0) = 0; take(4, 4, 2.0) = 0; swap(5, 5, 1, 2.0) = 0
            """, "reset", "6 NSE 7 UOE 0 1 2 3 4 5 IAE -1 8 -2147483648 2147483647");
        Runs.check("reset: the first and the last CHANNEL", """
            make(0, 6, 2) = 1; make(7, 6, 5) = 2
            reset(0) = 0
            reset(7) = 0
            """);
    }

    private static void everyNumberOfWaiters() {
        for (int waiters = 0; waiters <= 4; waiters++) {
            StringBuilder run = new StringBuilder("make(0, 6, 5) = 1; make(1, 6, 2) = 2; arrive(0, 1, -1.0) = 0\n");
            for (int t = 1; t <= waiters; t++) {
                run.append("arrive(" + t + ", 0, " + (t % 2 == 0 ? "-1.0" : "3.0") + ") = 0\n");
            }
            run.append("reset(0) = " + waiters + "; channel(0, 2) = 0; channel(0, 3) = 1; channel(0, 5) = -1\n");
            for (int t = 1; t <= waiters; t++) {
                run.append("thread(" + t + ", 0) = 0; thread(" + t + ", 1) = 4; thread(" + t + ", 2) = 0\n");
                run.append("thread(" + t + ", 3) = -1; got(" + t + ") = " + (t - 1) + "\n");
            }
            run.append("thread(5, 1) = -1; thread(0, 1) = 0; channel(1, 2) = 1\n");
            run.append("reset(0) = 0\n");
            // No END is left.
            run.append("tick(9.0) = 0; channel(0, 3) = 1\n");
            Runs.check("its WAITERS wait no more, Answers how many these were: " + waiters, run.toString());
        }
    }

    private static void itIsWhole() {
        Runs.check("it is whole: one that was BROKEN can be passed again", """
            make(0, 6, 3) = 1
            arrive(0, 0, -1.0) = 0
            arrive(1, 0, 0.0) = 2
            channel(0, 3) = 0
            arrive(2, 0, -1.0) = throws.ArithmeticException
            reset(0) = 0
            channel(0, 3) = 1
            thread(0, 1) = 4; thread(1, 1) = 2; thread(2, 1) = -1
            arrive(0, 0, -1.0) = 0; got(0) = 0
            arrive(1, 0, -1.0) = 0; got(1) = 1
            arrive(2, 0, -1.0) = 1
            channel(0, 4) = 1
            """);
        Runs.check("it is whole: another one that is BROKEN stays so", """
            make(0, 6, 2) = 1; make(1, 6, 2) = 2
            arrive(0, 0, 0.0) = 2; arrive(0, 1, 0.0) = 2
            reset(1) = 0
            channel(0, 3) = 0; channel(1, 3) = 1
            """);
        Runs.check("it is whole: with WAITERS it was not BROKEN and is not", """
            make(0, 6, 2) = 1
            arrive(0, 0, -1.0) = 0
            reset(0) = 1
            arrive(1, 0, -1.0) = 0
            channel(0, 3) = 1; got(1) = 0
            arrive(0, 0, -1.0) = 1
            """);
    }

    private static void whatItLeavesAlone() {
        Runs.check("how often it was PASSED, FLAGS and TIME stay", """
            make(0, 6, 2) = 1
            arrive(0, 0, -1.0) = 0; arrive(1, 0, -1.0) = 1; arrive(0, 0, -1.0) = 0; arrive(1, 0, -1.0) = 1
            arrive(0, 0, -1.0) = 0
            interrupt(2) = -1
            tick(1.5) = 0
            reset(0) = 1
            channel(0, 4) = 2; thread(2, 2) = 1; thread(2, 1) = -1; time() = 1.5; channel(0, 0) = 6
            """);
    }
}

/** thread, at the edges. */
public final class Promise11EdgesTest {
    public static void main(String[] args) {
        Cross.check("thread 0 .. 5, what 0 .. 3", "make(0, 1, 0) = 1; take(1, 0, 3.0) = 0; interrupt(2) = -1", "thread",
            "0 1 2 5 IAE -1 6 -2147483648 2147483647",
            "0 1 2 3 IAE -1 4 -2147483648 2147483647");
        everyOutcome();
        flag();
        everyChannel();
        everyThread();
        Runs.end();
    }

    private static void everyOutcome() {
        Runs.check("1 its OUTCOME: -1, 0, 1, 2, 3, 4; 0: 1 if it is BLOCKED, else 0", """
            make(0, 1, 0) = 1; make(1, 6, 2) = 2
            thread(0, 1) = -1; thread(0, 0) = 0
            take(0, 0, -1.0) = 0; thread(0, 1) = 0; thread(0, 0) = 1
            give(1, 0, 1, 0.0, 0.0) = 1; thread(0, 1) = 1; thread(0, 0) = 0
            take(0, 0, 0.0) = 2; thread(0, 1) = 2; thread(0, 0) = 0
            take(0, 0, -1.0) = 0; interrupt(0) = 3; thread(0, 1) = 3; thread(0, 0) = 0
            arrive(0, 1, -1.0) = 0; thread(0, 1) = 0; thread(0, 0) = 1
            reset(1) = 1; thread(0, 1) = 4; thread(0, 0) = 0
            # a call of another THREAD, or one that throws, leaves it alone
            give(1, 0, 1, 0.0, 0.0) = 1; thread(0, 1) = 4
            arrive(0, 0, 0.0) = throws.UnsupportedOperationException
            thread(0, 1) = 4
            """);
    }

    private static void flag() {
        Runs.check("2: 1 if its FLAG is set, else 0", """
            make(0, 1, 0) = 1
            thread(0, 2) = 0
            interrupt(0) = -1; thread(0, 2) = 1; thread(0, 2) = 1
            take(0, 0, -1.0) = 3; thread(0, 2) = 0
            take(0, 0, -1.0) = 0; thread(0, 2) = 0
            interrupt(0) = 3; thread(0, 2) = 0
            """);
    }

    private static void everyChannel() {
        Runs.check("3 the CHANNEL it waits at, the first to the last, -1 if none", """
            make(0, 0, 1) = 1; make(1, 1, 0) = 2; make(2, 2, 0) = 3; make(3, 3, 0) = 4
            make(4, 4, 0) = 5; make(5, 5, 0) = 6; make(6, 6, 2) = 7; make(7, 1, 0) = 8
            thread(0, 3) = -1
            take(0, 0, -1.0) = 0; thread(0, 3) = 0; interrupt(0) = 3; thread(0, 3) = -1
            take(0, 1, -1.0) = 0; thread(0, 3) = 1; interrupt(0) = 3; thread(0, 3) = -1
            give(0, 2, 1, 0.0, -1.0) = 0; thread(0, 3) = 2; interrupt(0) = 3; thread(0, 3) = -1
            take(0, 3, -1.0) = 0; thread(0, 3) = 3; interrupt(0) = 3; thread(0, 3) = -1
            take(0, 4, -1.0) = 0; thread(0, 3) = 4; interrupt(0) = 3; thread(0, 3) = -1
            swap(0, 5, 1, -1.0) = 0; thread(0, 3) = 5; interrupt(0) = 3; thread(0, 3) = -1
            arrive(0, 6, -1.0) = 0; thread(0, 3) = 6; interrupt(0) = 3; thread(0, 3) = -1
            take(0, 7, 1.0) = 0; thread(0, 3) = 7; tick(1.0) = 1; thread(0, 3) = -1
            """);
    }

    private static void everyThread() {
        Runs.check("Of a THREAD, and of no other", """
            make(0, 1, 0) = 1; make(3, 2, 0) = 2
            take(0, 0, -1.0) = 0; give(5, 3, 1, 0.0, -1.0) = 0; give(2, 3, 1, 0.0, 0.0) = 2; interrupt(3) = -1
            thread(0, 0) = 1; thread(1, 0) = 0; thread(2, 0) = 0; thread(3, 0) = 0; thread(4, 0) = 0; thread(5, 0) = 1
            thread(0, 1) = 0; thread(1, 1) = -1; thread(2, 1) = 2; thread(3, 1) = -1; thread(4, 1) = -1; thread(5, 1) = 0
            thread(0, 2) = 0; thread(1, 2) = 0; thread(2, 2) = 0; thread(3, 2) = 1; thread(4, 2) = 0; thread(5, 2) = 0
            thread(0, 3) = 0; thread(1, 3) = -1; thread(2, 3) = -1; thread(3, 3) = -1; thread(4, 3) = -1; thread(5, 3) = 3
            """);
    }
}

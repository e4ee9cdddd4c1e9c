/** channel, at the edges. */
public final class Promise12EdgesTest {
    public static void main(String[] args) {
        Cross.check("channel 0 .. 7, what 0 .. 10", "make(0, 1, 0) = 1; make(7, 6, 2) = 2; take(1, 0, 3.0) = 0", "channel",
            "0 7 NSE 1 6 IAE -1 8 -2147483648 2147483647",
            "0 1 2 3 4 5 6 7 8 9 10 IAE -1 11 -2147483648 2147483647");
        items();
        waiters();
        ready();
        whole();
        passed();
        Runs.end();
    }

    private static void items() {
        int[][] kinds = {{0, 1, 1}, {0, 4, 4}, {1, 0, 16}, {3, 0, 6}, {4, 0, 6}};
        for (int[] k : kinds) {
            StringBuilder run = new StringBuilder("make(7, " + k[0] + ", " + k[1] + ") = 1; channel(7, 0) = " + k[0] + "\n");
            for (int i = 0; i < k[2]; i++) {
                run.append("channel(7, 1) = " + i + "; channel(7, 3) = " + (i > 0 ? 1 : 0) + "\n");
                run.append("give(0, 7, 1, 0.0, 0.0) = 1\n");
            }
            run.append("channel(7, 1) = " + k[2] + "; give(0, 7, 1, 0.0, -1.0) = 0; channel(7, 1) = " + k[2] + "\n");
            run.append("channel(7, 2) = 1; channel(7, 4) = 0\n");
            Runs.check("1 how many ITEMS: none to " + k[2] + " of KIND " + k[0], run.toString());
        }
        Runs.check("1 how many ITEMS: what waits is none", """
            make(0, 2, 0) = 1; make(1, 5, 0) = 2; make(2, 6, 2) = 3
            give(0, 0, 1, 0.0, -1.0) = 0; swap(1, 1, 1, -1.0) = 0; arrive(2, 2, -1.0) = 0
            channel(0, 1) = 0; channel(1, 1) = 0; channel(2, 1) = 0
            channel(0, 0) = 2; channel(1, 0) = 5; channel(2, 0) = 6
            """);
    }

    private static void waiters() {
        for (int count = 0; count <= 6; count++) {
            StringBuilder run = new StringBuilder("make(0, 2, 0) = 1; make(1, 2, 0) = 2\n");
            for (int i = 0; i < count; i++) {
                run.append("give(" + (5 - i) + ", 0, 1, 0.0, -1.0) = 0\n");
            }
            run.append("channel(0, 2) = " + count + "; channel(1, 2) = 0; channel(1, 5) = -1\n");
            for (int i = 0; i < 6; i++) {
                run.append("channel(0, " + (5 + i) + ") = " + (i < count ? 5 - i : -1) + "\n");
            }
            Runs.check("2 how many WAITERS, 5 + i the THREAD of WAITER i: " + count, run.toString());
        }
        Runs.check("5 + i: GIVERS and TAKERS together in the order in which they came", """
            make(0, 4, 0) = 1
            give(0, 0, 1, 5.0, 0.0) = 1; give(0, 0, 2, 5.0, 0.0) = 1; give(0, 0, 3, 5.0, 0.0) = 1
            give(0, 0, 4, 5.0, 0.0) = 1; give(0, 0, 5, 5.0, 0.0) = 1; give(0, 0, 6, 5.0, 0.0) = 1
            give(4, 0, 7, 0.0, 3.0) = 0; take(1, 0, 1.0) = 0; give(3, 0, 8, 0.0, -1.0) = 0; take(0, 0, -1.0) = 0
            channel(0, 2) = 4; channel(0, 5) = 4; channel(0, 6) = 1; channel(0, 7) = 3; channel(0, 8) = 0; channel(0, 9) = -1
            tick(1.0) = 1
            channel(0, 2) = 3; channel(0, 5) = 4; channel(0, 6) = 3; channel(0, 7) = 0; channel(0, 8) = -1
            # one that comes again is the last
            take(1, 0, -1.0) = 0
            channel(0, 8) = 1
            """);
        Runs.check("5 + i: of a BARRIER and of an EXCHANGE", """
            make(0, 6, 5) = 1; make(1, 5, 0) = 2
            arrive(3, 0, -1.0) = 0; arrive(1, 0, -1.0) = 0; arrive(5, 0, -1.0) = 0; arrive(0, 0, -1.0) = 0
            swap(2, 1, 1, -1.0) = 0
            channel(0, 2) = 4; channel(0, 5) = 3; channel(0, 6) = 1; channel(0, 7) = 5; channel(0, 8) = 0; channel(0, 9) = -1
            channel(1, 2) = 1; channel(1, 5) = 2; channel(1, 6) = -1
            """);
    }

    private static void ready() {
        Runs.check("3: 1 if its first ITEM is READY: for others than DELAYED if there is one", """
            make(0, 0, 1) = 1; make(1, 1, 0) = 2; make(2, 2, 0) = 3; make(3, 3, 0) = 4; make(5, 5, 0) = 5
            channel(0, 3) = 0; channel(1, 3) = 0; channel(2, 3) = 0; channel(3, 3) = 0; channel(5, 3) = 0
            give(0, 0, 1, 1000.0, 0.0) = 1; give(0, 1, 1, 1000.0, 0.0) = 1; give(0, 3, 1, 1000.0, 0.0) = 1
            channel(0, 3) = 1; channel(1, 3) = 1; channel(3, 3) = 1
            # no ITEM is IN where one waits with it
            give(1, 2, 1, 0.0, -1.0) = 0; channel(2, 3) = 0
            swap(2, 5, 1, -1.0) = 0; channel(5, 3) = 0
            take(0, 0, 0.0) = 1; channel(0, 3) = 0
            """);
        Runs.check("3: for DELAYED only if its DUE time is not above TIME", """
            make(0, 4, 0) = 1
            channel(0, 3) = 0
            give(0, 0, 1, 1.0, 0.0) = 1; channel(0, 3) = 0
            tick(0.9999999999999999) = 0; channel(0, 3) = 0
            tick(1.1102230246251565E-16) = 0; time() = 1.0; channel(0, 3) = 1
            give(0, 0, 2, 1.0, 0.0) = 1; channel(0, 3) = 1
            take(0, 0, 0.0) = 1; channel(0, 1) = 1; channel(0, 3) = 0
            tick(1000.0) = 0; channel(0, 3) = 1
            """);
    }

    private static void whole() {
        Runs.check("3: for a BARRIER if it is whole, else 0", """
            make(0, 6, 2) = 1
            channel(0, 3) = 1
            arrive(0, 0, -1.0) = 0; channel(0, 3) = 1
            arrive(1, 0, -1.0) = 1; channel(0, 3) = 1
            arrive(1, 0, 0.0) = 2; channel(0, 3) = 0
            arrive(1, 0, 0.0) = throws.ArithmeticException
            channel(0, 3) = 0
            reset(0) = 0; channel(0, 3) = 1
            """);
    }

    private static void passed() {
        Runs.check("4 how often it was PASSED, 0 for others", """
            make(0, 6, 2) = 1; make(1, 5, 0) = 2; make(2, 2, 0) = 3; make(3, 0, 1) = 4; make(4, 3, 0) = 5; make(5, 4, 0) = 6
            channel(0, 4) = 0
            arrive(0, 0, -1.0) = 0; channel(0, 4) = 0; arrive(1, 0, -1.0) = 1; channel(0, 4) = 1
            # neither BROKEN nor reset counts
            arrive(0, 0, -1.0) = 0; reset(0) = 1; channel(0, 4) = 1
            arrive(0, 0, -1.0) = 0; interrupt(0) = 3; channel(0, 4) = 1
            reset(0) = 0; arrive(0, 0, -1.0) = 0; arrive(1, 0, -1.0) = 1; channel(0, 4) = 2
            swap(0, 1, 1, -1.0) = 0; swap(1, 1, 1, -1.0) = 1; channel(1, 4) = 0
            give(0, 2, 1, 0.0, -1.0) = 0; take(1, 2, -1.0) = 1; channel(2, 4) = 0
            give(0, 3, 1, 0.0, -1.0) = 1; take(1, 3, -1.0) = 1; channel(3, 4) = 0; channel(4, 4) = 0; channel(5, 4) = 0
            """);
    }
}

/** give, at the edges. */
public final class Promise03EdgesTest {
    public static void main(String[] args) {
        whatIsThrown();
        smallestAndLargest();
        flag();
        noRoom();
        waitersWhereThereIsNoRoom();
        direct();
        limits();
        ranks();
        delays();
        dueWhenTheCallIsMade();
        whatCountsForNothing();
        servedAtOnce();
        Runs.end();
    }

    private static void whatIsThrown() {
        // THREAD 1 is BLOCKED, the FLAG of 4 is set; a call that throws must leave both alone.
        Cross.check("give: what is thrown, in this order", """
            make(0, 0, 1) = 1; make(1, 1, 0) = 2; make(2, 2, 0) = 3; make(3, 3, 0) = 4; make(4, 4, 0) = 5
            make(5, 5, 0) = 6; make(6, 6, 2) = 7
            take(1, 2, 3.0) = 0
            interrupt(4) = -1
            """, "give",
            "0 5 4 ISE 1 IAE -1 6 -2147483648 2147483647",
            "0 1 2 3 4 NSE 7 UOE 5 6 IAE -1 8 -2147483648 2147483647",
            "9",
            "-1000.0 1000.0 IAE -1000.0000000000001 1000.0000000000001 NaN",
            "-1.0 1000.0 IAE -1.0000000000000002 1000.0000000000001 NaN");
        Cross.check("give: numbers far out of range", "make(0, 0, 1) = 1", "give",
            "0", "0", "-2147483648 2147483647",
            "-0.0 4.9E-324 IAE -Infinity Infinity NaN -1.0E308 1.0E308",
            "-0.0 4.9E-324 IAE -Infinity Infinity NaN -1.0E308 1.0E308 -2.0 1001.0");
        Runs.check("give: thrown too where there is no ROOM, where a GIVER waits, where the FLAG is set", """
            make(0, 0, 1) = 1; make(5, 5, 0) = 2
            give(0, 0, 1, 0.0, 0.0) = 1
            give(1, 0, 2, 0.0, 5.0) = 0
            interrupt(0) = 1
            give(0, 0, 3, 0.0, 1001.0) = throws.IllegalArgumentException
            give(0, 1, 3, 0.0, 0.0) = throws.NoSuchElementException
            give(1, 0, 3, 0.0, 0.0) = throws.IllegalStateException
            give(0, 5, 3, 0.0, 0.0) = throws.UnsupportedOperationException
            thread(0, 2) = 1
            thread(0, 1) = 1
            channel(0, 2) = 1
            """);
    }

    private static void smallestAndLargest() {
        Runs.check("give: the smallest and the largest number of every argument", """
            make(0, 1, 0) = 1; make(7, 3, 0) = 2
            give(0, 0, -2147483648, -1000.0, -1.0) = 1
            give(5, 0, 2147483647, 1000.0, 1000.0) = 1
            item(0, 0) = -2147483648
            item(0, 1) = 2147483647
            give(0, 7, -2147483648, -1000.0, -1.0) = 1
            give(5, 7, 2147483647, 1000.0, 1000.0) = 1
            item(7, 0) = 2147483647
            item(7, 1) = -2147483648
            """);
    }

    private static void flag() {
        for (int kind = 0; kind <= 4; kind++) {
            Runs.check("Its FLAG is set: KIND " + kind + ", a TAKER waits and goes on waiting", """
                make(0, K, A) = 1
                take(1, 0, -1.0) = 0
                interrupt(0) = -1
                give(0, 0, 1, 0.0, -1.0) = 3
                thread(0, 0) = 0; thread(0, 1) = 3; thread(0, 2) = 0
                channel(0, 1) = 0; channel(0, 2) = 1
                thread(1, 1) = 0
                # only once
                give(0, 0, 2, 0.0, -1.0) = 1
                got(1) = 2
                """.replace("K", "" + kind).replace("A", kind == 0 ? "1" : "0"));
        }
        Runs.check("Its FLAG is set: 3 also where there is no ROOM, for every limit, and nobody waits", """
            make(0, 0, 1) = 1; make(1, 2, 0) = 2
            give(1, 0, 1, 0.0, 0.0) = 1
            interrupt(0) = -1; give(0, 0, 2, 0.0, 0.0) = 3
            interrupt(0) = 3; give(0, 0, 2, 0.0, 1.0) = 3
            interrupt(0) = 3; give(0, 0, 2, 0.0, -1.0) = 3
            interrupt(0) = 3; give(0, 1, 2, 0.0, 0.0) = 3
            interrupt(0) = 3; give(0, 1, 2, 0.0, -1.0) = 3
            channel(0, 1) = 1; channel(0, 2) = 0; channel(1, 2) = 0
            thread(0, 0) = 0; thread(0, 3) = -1
            """);
        Runs.check("Its FLAG is set: that of another counts for nothing and stays", """
            make(0, 1, 0) = 1
            interrupt(1) = -1
            give(0, 0, 1, 0.0, 0.0) = 1
            thread(1, 2) = 1; thread(1, 1) = -1
            """);
    }

    private static void noRoom() {
        int[][] kinds = {{0, 1, 1}, {0, 2, 2}, {0, 3, 3}, {0, 4, 4}, {1, 0, 16}, {3, 0, 6}, {4, 0, 6}};
        for (int[] k : kinds) {
            StringBuilder run = new StringBuilder("make(0, " + k[0] + ", " + k[1] + ") = 1\n");
            for (int i = 1; i <= k[2]; i++) {
                run.append("channel(0, 1) = " + (i - 1) + "; give(0, 0, " + i + ", 0.0, 0.0) = 1; thread(0, 1) = 1\n");
            }
            run.append("give(0, 0, 99, 0.0, 0.0) = 2; thread(0, 1) = 2; thread(0, 0) = 0; channel(0, 2) = 0\n");
            run.append("give(1, 0, 90, 0.0, 2.0) = 0; thread(1, 1) = 0; thread(1, 0) = 1; channel(0, 5) = 1\n");
            run.append("channel(0, 1) = " + k[2] + "; item(0, " + k[2] + ") = throws.IndexOutOfBoundsException\n");
            run.append("take(2, 0, 0.0) = 1; got(2) = 1; thread(1, 1) = 1; thread(1, 0) = 0; channel(0, 2) = 0\n");
            run.append("channel(0, 1) = " + k[2] + "; item(0, " + (k[2] - 1) + ") = 90\n");
            run.append("give(0, 0, 99, 0.0, 0.0) = 2\n");
            Runs.check("there is no ROOM: KIND " + k[0] + " with " + k[2] + " ITEMS", run.toString());
        }
    }

    private static void waitersWhereThereIsNoRoom() {
        Runs.check("A GIVER waits already: the next WAITS behind it, or not at all for limit 0.0", """
            make(0, 0, 1) = 1
            give(0, 0, 1, 0.0, 0.0) = 1
            give(0, 0, 2, 0.0, -1.0) = 0
            give(1, 0, 3, 0.0, 0.0) = 2
            give(2, 0, 4, 0.0, -1.0) = 0
            give(1, 0, 5, 0.0, 7.0) = 0
            channel(0, 2) = 3; channel(0, 5) = 0; channel(0, 6) = 2; channel(0, 7) = 1; channel(0, 8) = -1
            take(5, 0, 0.0) = 1; got(5) = 1; item(0, 0) = 2; channel(0, 5) = 2
            take(5, 0, 0.0) = 1; got(5) = 2; item(0, 0) = 4; channel(0, 5) = 1
            take(5, 0, 0.0) = 1; got(5) = 4; item(0, 0) = 5; channel(0, 5) = -1
            take(5, 0, 0.0) = 1; got(5) = 5
            take(5, 0, 0.0) = 2
            """);
        Runs.check("all six wait as GIVERS", """
            make(0, 0, 1) = 1
            give(0, 0, 10, 0.0, 0.0) = 1
            give(5, 0, 15, 0.0, -1.0) = 0; give(4, 0, 14, 0.0, -1.0) = 0; give(3, 0, 13, 0.0, -1.0) = 0
            give(2, 0, 12, 0.0, -1.0) = 0; give(1, 0, 11, 0.0, -1.0) = 0; give(0, 0, 10, 0.0, -1.0) = 0
            channel(0, 2) = 6; channel(0, 1) = 1
            channel(0, 5) = 5; channel(0, 10) = 0
            """);
        Runs.check("A waiting GIVER's ITEM comes in by its RANK, behind those with the same", """
            make(0, 3, 0) = 1
            give(0, 0, 1, 9.0, 0.0) = 1; give(0, 0, 2, 5.0, 0.0) = 1; give(0, 0, 3, 5.0, 0.0) = 1
            give(0, 0, 4, 5.0, 0.0) = 1; give(0, 0, 5, 1.0, 0.0) = 1; give(0, 0, 6, 1.0, 0.0) = 1
            give(0, 0, 7, 5.0, -1.0) = 0
            give(1, 0, 8, 1000.0, -1.0) = 0
            item(0, 0) = 1
            # the highest of those that are in is taken, not the waiter's that is higher
            take(2, 0, 0.0) = 1; got(2) = 1
            item(0, 0) = 2; item(0, 1) = 3; item(0, 2) = 4; item(0, 3) = 7; item(0, 4) = 5; item(0, 5) = 6
            take(2, 0, 0.0) = 1; got(2) = 2
            item(0, 0) = 8; item(0, 1) = 3
            """);
    }

    private static void direct() {
        Runs.check("DIRECT: no TAKER waits", """
            make(0, 2, 0) = 1
            give(0, 0, 1, 0.0, 0.0) = 2
            thread(0, 1) = 2; channel(0, 1) = 0; channel(0, 2) = 0
            give(0, 0, 1, 0.0, -1.0) = 0
            channel(0, 1) = 0; channel(0, 2) = 1; item(0, 0) = throws.IndexOutOfBoundsException
            # a GIVER waits already
            give(1, 0, 2, 0.0, 0.0) = 2
            give(1, 0, 2, 0.0, 1.0) = 0
            channel(0, 2) = 2; channel(0, 5) = 0; channel(0, 6) = 1
            """);
        Runs.check("DIRECT: one TAKER waits", """
            make(0, 2, 0) = 1
            take(3, 0, -1.0) = 0
            give(0, 0, 1, 0.0, 0.0) = 1
            thread(0, 1) = 1; thread(0, 0) = 0
            thread(3, 1) = 1; thread(3, 0) = 0; thread(3, 3) = -1; got(3) = 1
            channel(0, 1) = 0; channel(0, 2) = 0; stay(0) = 0.0
            give(0, 0, 2, 0.0, 0.0) = 2
            """);
        Runs.check("DIRECT: several TAKERS wait, the first TAKES it", """
            make(0, 2, 0) = 1
            take(4, 0, -1.0) = 0; take(2, 0, 1.0) = 0; take(3, 0, -1.0) = 0
            give(0, 0, 1, 0.0, 0.0) = 1
            got(4) = 1; got(2) = throws.NoSuchElementException; thread(2, 1) = 0; thread(3, 1) = 0
            give(0, 0, 2, 0.0, -1.0) = 1
            got(2) = 2; thread(3, 1) = 0; channel(0, 2) = 1; channel(0, 5) = 3
            """);
    }

    private static void limits() {
        Runs.check("To WAIT: limit 0.0 waits not, above until its END, below without one", """
            make(0, 0, 1) = 1
            give(0, 0, 1, 0.0, 0.0) = 1
            give(0, 0, 2, 0.0, -1.0) = 0
            give(1, 0, 3, 0.0, -4.9E-324) = 0
            give(2, 0, 4, 0.0, 0.0) = 2; thread(2, 1) = 2; thread(2, 0) = 0
            give(2, 0, 4, 0.0, -0.0) = 2; thread(2, 3) = -1
            give(3, 0, 5, 0.0, 4.9E-324) = 0
            give(4, 0, 6, 0.0, 1000.0) = 0
            channel(0, 2) = 4
            tick(0.0) = 0
            tick(4.9E-324) = 1; thread(3, 1) = 2; thread(3, 0) = 0
            tick(999.0) = 0; thread(4, 0) = 1
            tick(1.0) = 1; thread(4, 1) = 2
            tick(1000.0) = 0; tick(1000.0) = 0
            thread(0, 0) = 1; thread(1, 0) = 1; channel(0, 2) = 2
            """);
        Runs.check("To WAIT: a limit counts for nothing for an ITEM that is IN at once", """
            make(0, 1, 0) = 1
            give(0, 0, 1, 0.0, 0.0) = 1; give(0, 0, 2, 0.0, 1.0) = 1; give(0, 0, 3, 0.0, -1.0) = 1
            tick(5.0) = 0
            thread(0, 1) = 1; channel(0, 1) = 3
            """);
    }

    private static void ranks() {
        Runs.check("RANKED: by falling RANKS, at the edges and for the next number", """
            make(0, 3, 0) = 1
            give(0, 0, 1, 0.0, 0.0) = 1
            give(0, 0, 2, 4.9E-324, 0.0) = 1
            give(0, 0, 3, -4.9E-324, 0.0) = 1
            give(0, 0, 4, 999.9999999999999, 0.0) = 1
            give(0, 0, 5, 1000.0, 0.0) = 1
            give(0, 0, 6, -1000.0, 0.0) = 1
            item(0, 0) = 5; item(0, 1) = 4; item(0, 2) = 2; item(0, 3) = 1; item(0, 4) = 3; item(0, 5) = 6
            """);
        Runs.check("RANKED: those with the same RANK as they came", """
            make(0, 3, 0) = 1
            give(0, 0, 1, 0.0, 0.0) = 1
            give(0, 0, 2, -0.0, 0.0) = 1
            give(0, 0, 3, 0.0, 0.0) = 1
            give(0, 0, 4, 1000.0, 0.0) = 1
            give(0, 0, 5, 1000.0, 0.0) = 1
            give(0, 0, 6, -0.0, 0.0) = 1
            item(0, 0) = 4; item(0, 1) = 5; item(0, 2) = 1; item(0, 3) = 2; item(0, 4) = 3; item(0, 5) = 6
            """);
        Runs.check("RANKED: one that is below all others is last, a RANK is no delay", """
            make(0, 3, 0) = 1
            give(0, 0, 1, 5.0, 0.0) = 1
            channel(0, 3) = 1
            give(0, 0, 2, -5.0, 0.0) = 1
            give(0, 0, 3, -7.0, 0.0) = 1
            item(0, 0) = 1; item(0, 1) = 2; item(0, 2) = 3
            """);
    }

    private static void delays() {
        Runs.check("DELAYED: DUE just at TIME is READY, a moment above is not", """
            make(0, 4, 0) = 1; make(1, 4, 0) = 2; make(2, 4, 0) = 3; make(3, 4, 0) = 4; make(4, 4, 0) = 5
            give(0, 0, 1, 0.0, 0.0) = 1; channel(0, 3) = 1
            give(0, 1, 1, -0.0, 0.0) = 1; channel(1, 3) = 1
            give(0, 2, 1, 4.9E-324, 0.0) = 1; channel(2, 3) = 0
            give(0, 3, 1, -4.9E-324, 0.0) = 1; channel(3, 3) = 1
            give(0, 4, 1, 1000.0, 0.0) = 1; channel(4, 3) = 0
            tick(999.9999999999999) = 0; channel(4, 3) = 0; channel(2, 3) = 1
            """);
        Runs.check("DELAYED: the delay is 0.0 for one below, so these are DUE at the same time, as they came", """
            make(0, 4, 0) = 1
            tick(5.0) = 0
            give(0, 0, 1, 0.0, 0.0) = 1
            give(0, 0, 2, -1000.0, 0.0) = 1
            give(0, 0, 3, -1.0, 0.0) = 1
            give(0, 0, 4, -0.0, 0.0) = 1
            give(0, 0, 5, -4.9E-324, 0.0) = 1
            item(0, 0) = 1; item(0, 1) = 2; item(0, 2) = 3; item(0, 3) = 4; item(0, 4) = 5
            channel(0, 3) = 1
            """);
        Runs.check("DELAYED: the same DUE time by another way is the same, as they came", """
            make(0, 4, 0) = 1
            give(0, 0, 1, 3.0, 0.0) = 1
            give(0, 0, 2, 3.5, 0.0) = 1
            tick(1.0) = 0
            give(0, 0, 3, 2.0, 0.0) = 1
            give(0, 0, 4, 2.5, 0.0) = 1
            tick(2.0) = 0
            give(0, 0, 5, 0.0, 0.0) = 1
            give(0, 0, 6, -9.0, 0.0) = 1
            item(0, 0) = 1; item(0, 1) = 3; item(0, 2) = 5; item(0, 3) = 6; item(0, 4) = 2; item(0, 5) = 4
            """);
        Runs.check("DELAYED: a delay too small to be seen beside TIME is DUE at TIME", """
            make(0, 4, 0) = 1
            tick(1000.0) = 0
            give(0, 0, 1, 1.0E-14, 0.0) = 1
            channel(0, 3) = 1
            take(1, 0, 0.0) = 1
            """);
    }

    private static void dueWhenTheCallIsMade() {
        Runs.check("it is DUE at TIME plus that when the call is made, though it is IN later", """
            make(0, 4, 0) = 1
            give(0, 0, 1, 0.0, 0.0) = 1
            give(0, 0, 2, 50.0, 0.0) = 1; give(0, 0, 3, 50.0, 0.0) = 1; give(0, 0, 4, 50.0, 0.0) = 1
            give(0, 0, 5, 50.0, 0.0) = 1; give(0, 0, 6, 50.0, 0.0) = 1
            tick(1.0) = 0
            give(0, 0, 7, 2.0, -1.0) = 0
            tick(1.0) = 0
            take(1, 0, 0.0) = 1; got(1) = 1
            item(0, 0) = 7; channel(0, 3) = 0
            take(1, 0, 0.0) = 2
            # DUE at 3.0, not at 4.0
            tick(1.0) = 0
            channel(0, 3) = 1
            take(1, 0, 0.0) = 1; got(1) = 7
            """);
        Runs.check("a waiting GIVER's ITEM that was DUE before TIME and before others comes before them", """
            make(0, 4, 0) = 1
            give(0, 0, 1, 0.0, 0.0) = 1
            give(0, 0, 2, 1.5, 0.0) = 1; give(0, 0, 3, 1.5, 0.0) = 1; give(0, 0, 4, 1.0, 0.0) = 1
            give(0, 0, 5, 0.5, 0.0) = 1; give(0, 0, 6, 1.5, 0.0) = 1
            give(0, 0, 7, 1.0, -1.0) = 0
            tick(2.0) = 0
            take(1, 0, 0.0) = 1; got(1) = 1
            item(0, 0) = 5; item(0, 1) = 4; item(0, 2) = 7; item(0, 3) = 2; item(0, 4) = 3; item(0, 5) = 6
            """);
        Runs.check("a waiting GIVER's delay below 0.0 is 0.0 too: DUE when the call is made", """
            make(0, 4, 0) = 1
            give(0, 0, 1, 4.0, 0.0) = 1; give(0, 0, 2, 4.0, 0.0) = 1; give(0, 0, 3, 4.0, 0.0) = 1
            give(0, 0, 4, 4.0, 0.0) = 1; give(0, 0, 5, 4.0, 0.0) = 1; give(0, 0, 6, 4.0, 0.0) = 1
            tick(4.0) = 0
            give(0, 0, 7, -1000.0, -1.0) = 0
            take(1, 0, 0.0) = 1; got(1) = 1
            # DUE at 4.0 as the others, and came behind them
            item(0, 0) = 2; item(0, 5) = 7
            """);
    }

    private static void whatCountsForNothing() {
        for (int kind = 0; kind <= 1; kind++) {
            Runs.check("x counts for nothing: KIND " + kind, """
                make(0, K, A) = 1
                give(0, 0, 1, 0.0, 0.0) = 1
                give(0, 0, 2, 1000.0, 0.0) = 1
                give(0, 0, 3, -1000.0, 0.0) = 1
                give(0, 0, 4, 1.0, 0.0) = 1
                item(0, 0) = 1; item(0, 1) = 2; item(0, 2) = 3; item(0, 3) = 4
                take(1, 0, 0.0) = 1
                # a delay would not be over
                channel(0, 3) = 1
                take(1, 0, 0.0) = 1; got(1) = 2
                """.replace("K", "" + kind).replace("A", kind == 0 ? "4" : "0"));
        }
        Runs.check("x counts for nothing: DIRECT, the first GIVER is the first", """
            make(0, 2, 0) = 1
            give(0, 0, 1, -1000.0, -1.0) = 0; give(1, 0, 2, 1000.0, -1.0) = 0; give(2, 0, 3, 0.0, -1.0) = 0
            take(5, 0, 0.0) = 1; got(5) = 1
            take(5, 0, 0.0) = 1; got(5) = 2
            take(5, 0, 0.0) = 1; got(5) = 3
            """);
        Runs.check("x counts for nothing: waiting GIVERS of a BUFFER come in as they came", """
            make(0, 0, 1) = 1
            give(0, 0, 1, 0.0, 0.0) = 1
            give(0, 0, 2, -1000.0, -1.0) = 0; give(1, 0, 3, 1000.0, -1.0) = 0
            take(5, 0, 0.0) = 1; item(0, 0) = 2
            take(5, 0, 0.0) = 1; item(0, 0) = 3
            """);
    }

    private static void servedAtOnce() {
        int[] kinds = {0, 1, 3, 4};
        for (int kind : kinds) {
            Runs.check("then it is SERVED: KIND " + kind + ", the first of several TAKERS TAKES it", """
                make(0, K, A) = 1
                take(4, 0, -1.0) = 0; take(2, 0, 9.0) = 0
                tick(3.0) = 0
                give(0, 0, 7, 0.0, 0.0) = 1
                thread(0, 1) = 1; thread(0, 0) = 0
                thread(4, 0) = 0; thread(4, 1) = 1; got(4) = 7
                thread(2, 0) = 1; channel(0, 5) = 2; channel(0, 2) = 1; channel(0, 1) = 0
                stay(0) = 0.0
                # its END is gone
                give(0, 0, 8, 0.0, 0.0) = 1; got(2) = 8
                tick(20.0) = 0; thread(2, 1) = 1
                """.replace("K", "" + kind).replace("A", kind == 0 ? "1" : "0"));
        }
        Runs.check("then it is SERVED: DELAYED, a TAKER goes on waiting for what is not READY", """
            make(0, 4, 0) = 1
            take(1, 0, -1.0) = 0
            give(0, 0, 7, 2.0, 0.0) = 1
            thread(1, 0) = 1; channel(0, 1) = 1; channel(0, 2) = 1; channel(0, 3) = 0
            # one that is READY comes before it
            give(0, 0, 8, 0.0, 0.0) = 1
            got(1) = 8; thread(1, 1) = 1; channel(0, 1) = 1; item(0, 0) = 7
            """);
        Runs.check("DELAYED: a GIVER and a TAKER wait together, full and nothing READY", """
            make(0, 4, 0) = 1
            give(0, 0, 1, 5.0, 0.0) = 1; give(0, 0, 2, 5.0, 0.0) = 1; give(0, 0, 3, 5.0, 0.0) = 1
            give(0, 0, 4, 5.0, 0.0) = 1; give(0, 0, 5, 5.0, 0.0) = 1; give(0, 0, 6, 5.0, 0.0) = 1
            take(1, 0, -1.0) = 0
            give(0, 0, 7, 0.0, -1.0) = 0
            take(2, 0, -1.0) = 0
            give(3, 0, 8, 0.0, 0.0) = 2
            channel(0, 1) = 6; channel(0, 2) = 3; channel(0, 5) = 1; channel(0, 6) = 0; channel(0, 7) = 2
            """);
    }
}

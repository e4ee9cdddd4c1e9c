/** take, at the edges. */
public final class Promise04EdgesTest {
    private static final int[][] WITH_ROOM = {{0, 1, 1}, {0, 4, 4}, {1, 0, 16}, {3, 0, 6}, {4, 0, 6}};

    public static void main(String[] args) {
        whatIsThrown();
        flag();
        noItem();
        oneItemToAsManyAsThereIsRoom();
        takersWaitAlready();
        delayed();
        direct();
        limits();
        servedAfterwards();
        whatItGot();
        asLongAsAnObjectIsUsed();
        Runs.end();
    }

    private static void whatIsThrown() {
        // THREAD 1 is BLOCKED, the FLAG of 4 is set; a call that throws must leave both alone.
        Cross.check("take: what is thrown, in this order", """
            make(0, 0, 1) = 1; make(1, 1, 0) = 2; make(2, 2, 0) = 3; make(3, 3, 0) = 4; make(4, 4, 0) = 5
            make(5, 5, 0) = 6; make(6, 6, 2) = 7
            give(1, 2, 8, 0.0, 3.0) = 0
            give(0, 0, 9, 0.0, 0.0) = 1
            interrupt(4) = -1
            """, "take",
            "0 5 4 ISE 1 IAE -1 6 -2147483648 2147483647",
            "0 1 2 3 4 NSE 7 UOE 5 6 IAE -1 8 -2147483648 2147483647",
            "-1.0 -0.0 0.0 4.9E-324 1000.0 IAE -1.0000000000000002 1000.0000000000001 NaN -Infinity Infinity -2.0 1001.0");
        Runs.check("take: thrown too where a TAKER waits and where the FLAG is set", """
            make(0, 1, 0) = 1; make(6, 6, 2) = 2
            take(1, 0, 5.0) = 0
            interrupt(0) = -1
            take(0, 0, 1001.0) = throws.IllegalArgumentException
            take(0, 1, 0.0) = throws.NoSuchElementException
            take(1, 0, 0.0) = throws.IllegalStateException
            take(0, 6, 0.0) = throws.UnsupportedOperationException
            thread(0, 2) = 1
            thread(0, 1) = -1
            channel(0, 2) = 1
            """);
    }

    private static void flag() {
        for (int[] k : WITH_ROOM) {
            Runs.check("FLAG as for give: KIND " + k[0] + ", the ITEM stays", """
                make(0, K, A) = 1
                give(1, 0, 7, 0.0, 0.0) = 1
                interrupt(0) = -1
                take(0, 0, -1.0) = 3
                thread(0, 0) = 0; thread(0, 1) = 3; thread(0, 2) = 0
                got(0) = throws.NoSuchElementException
                item(0, 0) = 7
                stay(0) = throws.ArithmeticException
                # only once
                take(0, 0, 0.0) = 1
                got(0) = 7
                """.replace("K", "" + k[0]).replace("A)", k[1] + ")"));
        }
        Runs.check("FLAG as for give: DIRECT, the GIVER goes on waiting", """
            make(0, 2, 0) = 1
            give(1, 0, 7, 0.0, -1.0) = 0
            interrupt(0) = -1
            take(0, 0, 0.0) = 3
            thread(1, 0) = 1; channel(0, 2) = 1; got(0) = throws.NoSuchElementException
            take(0, 0, 0.0) = 1
            thread(1, 1) = 1
            """);
        Runs.check("FLAG as for give: 3 also where there is no ITEM, for every limit, and nobody waits", """
            make(0, 1, 0) = 1; make(1, 2, 0) = 2
            interrupt(0) = -1; take(0, 0, 0.0) = 3
            interrupt(0) = 3; take(0, 0, 1.0) = 3
            interrupt(0) = 3; take(0, 0, -1.0) = 3
            interrupt(0) = 3; take(0, 1, -1.0) = 3
            channel(0, 2) = 0; channel(1, 2) = 0; thread(0, 0) = 0
            # that of another counts for nothing and stays
            interrupt(1) = -1
            take(0, 0, 0.0) = 2
            thread(1, 2) = 1
            """);
    }

    private static void noItem() {
        for (int[] k : WITH_ROOM) {
            Runs.check("the first ITEM is not READY: KIND " + k[0] + " has none", """
                make(0, K, A) = 1
                take(0, 0, 0.0) = 2
                thread(0, 1) = 2; thread(0, 0) = 0; channel(0, 2) = 0
                got(0) = throws.NoSuchElementException
                stay(0) = throws.ArithmeticException
                take(0, 0, -1.0) = 0
                thread(0, 1) = 0; thread(0, 0) = 1; thread(0, 3) = 0; channel(0, 2) = 1; channel(0, 5) = 0
                """.replace("K", "" + k[0]).replace("A)", k[1] + ")"));
        }
    }

    private static void oneItemToAsManyAsThereIsRoom() {
        for (int[] k : WITH_ROOM) {
            for (int count = 1; count <= k[2]; count++) {
                StringBuilder run = new StringBuilder("make(0, " + k[0] + ", " + k[1] + ") = 1\n");
                for (int i = 1; i <= count; i++) {
                    run.append("give(0, 0, " + i + ", 0.0, 0.0) = 1\n");
                }
                for (int i = 1; i <= count; i++) {
                    run.append("channel(0, 1) = " + (count + 1 - i) + "; channel(0, 3) = 1\n");
                    run.append("take(1, 0, 0.0) = 1; thread(1, 1) = 1; got(1) = " + i + "\n");
                }
                run.append("channel(0, 1) = 0; channel(0, 3) = 0; take(1, 0, 0.0) = 2; got(1) = " + count + "\n");
                Runs.check("it TAKES that: KIND " + k[0] + " with " + count + " ITEMS", run.toString());
            }
        }
    }

    private static void takersWaitAlready() {
        Runs.check("A TAKER waits already: the next WAITS behind it, or not at all for limit 0.0", """
            make(0, 0, 1) = 1
            take(3, 0, -1.0) = 0
            take(0, 0, 0.0) = 2
            take(1, 0, 4.0) = 0
            take(0, 0, -1.0) = 0
            channel(0, 2) = 3; channel(0, 5) = 3; channel(0, 6) = 1; channel(0, 7) = 0; channel(0, 8) = -1
            give(5, 0, 10, 0.0, 0.0) = 1; got(3) = 10; channel(0, 5) = 1
            give(5, 0, 11, 0.0, 0.0) = 1; got(1) = 11; channel(0, 5) = 0
            give(5, 0, 12, 0.0, 0.0) = 1; got(0) = 12; channel(0, 5) = -1
            give(5, 0, 13, 0.0, 0.0) = 1; channel(0, 1) = 1
            """);
        Runs.check("A TAKER waits already: DELAYED with an ITEM that is not READY", """
            make(0, 4, 0) = 1
            give(0, 0, 7, 2.0, 0.0) = 1
            take(3, 0, -1.0) = 0
            take(1, 0, 0.0) = 2
            take(1, 0, -1.0) = 0
            channel(0, 2) = 2; channel(0, 5) = 3; channel(0, 1) = 1
            tick(2.0) = 0
            got(3) = 7; thread(1, 0) = 1
            """);
        Runs.check("all six wait as TAKERS", """
            make(0, 2, 0) = 1
            take(5, 0, -1.0) = 0; take(4, 0, -1.0) = 0; take(3, 0, -1.0) = 0
            take(2, 0, -1.0) = 0; take(1, 0, -1.0) = 0; take(0, 0, -1.0) = 0
            channel(0, 2) = 6; channel(0, 5) = 5; channel(0, 10) = 0
            """);
    }

    private static void delayed() {
        Runs.check("DELAYED: READY if its DUE time is just TIME, not a moment before", """
            make(0, 4, 0) = 1
            give(0, 0, 7, 1.0, 0.0) = 1
            take(1, 0, 0.0) = 2
            tick(0.9999999999999999) = 0
            channel(0, 3) = 0
            take(1, 0, 0.0) = 2
            tick(1.1102230246251565E-16) = 0
            time() = 1.0
            channel(0, 3) = 1
            take(1, 0, 0.0) = 1
            got(1) = 7; stay(0) = 1.0
            """);
        Runs.check("DELAYED: only as many as are DUE, those with the same DUE time as they came", """
            make(0, 4, 0) = 1
            give(0, 0, 1, 2.0, 0.0) = 1; give(0, 0, 2, 1.0, 0.0) = 1; give(0, 0, 3, 1.0, 0.0) = 1
            tick(1.0) = 0
            take(1, 0, 0.0) = 1; got(1) = 2
            take(1, 0, 0.0) = 1; got(1) = 3
            channel(0, 1) = 1
            take(1, 0, 0.0) = 2
            tick(1.0) = 0
            take(1, 0, 0.0) = 1; got(1) = 1
            """);
        Runs.check("DELAYED: one that is long DUE is READY as well", """
            make(0, 4, 0) = 1
            give(0, 0, 1, 2.0, 0.0) = 1
            tick(1000.0) = 0
            take(1, 0, 0.0) = 1; got(1) = 1; stay(0) = 1000.0
            """);
    }

    private static void direct() {
        Runs.check("DIRECT: no GIVER waits", """
            make(0, 2, 0) = 1
            take(0, 0, 0.0) = 2
            channel(0, 2) = 0; got(0) = throws.NoSuchElementException
            take(0, 0, -1.0) = 0
            # a TAKER waits already
            take(1, 0, 0.0) = 2
            take(1, 0, -1.0) = 0
            channel(0, 2) = 2; channel(0, 5) = 0; channel(0, 6) = 1
            """);
        Runs.check("DIRECT: one GIVER waits, who is served", """
            make(0, 2, 0) = 1
            give(3, 0, 7, 0.0, 2.0) = 0
            take(0, 0, 0.0) = 1
            got(0) = 7; thread(0, 1) = 1
            thread(3, 0) = 0; thread(3, 1) = 1; thread(3, 3) = -1; got(3) = throws.NoSuchElementException
            channel(0, 2) = 0; channel(0, 1) = 0; stay(0) = 0.0
            # its END is gone
            tick(5.0) = 0; thread(3, 1) = 1
            take(0, 0, 0.0) = 2
            """);
        Runs.check("DIRECT: several GIVERS wait, the first one's is taken", """
            make(0, 2, 0) = 1
            give(3, 0, 13, 0.0, -1.0) = 0; give(1, 0, 11, 0.0, -1.0) = 0; give(2, 0, 12, 0.0, -1.0) = 0
            take(0, 0, 0.0) = 1; got(0) = 13
            thread(3, 1) = 1; thread(1, 1) = 0; thread(2, 1) = 0
            channel(0, 2) = 2; channel(0, 5) = 1
            take(0, 0, -1.0) = 1; got(0) = 11
            take(0, 0, 9.0) = 1; got(0) = 12
            take(0, 0, 0.0) = 2
            """);
    }

    private static void limits() {
        for (int kind = 1; kind <= 4; kind++) {
            Runs.check("To WAIT: limit 0.0 waits not, above until its END, below without one: KIND " + kind, """
                make(0, K, 0) = 1
                take(0, 0, -1.0) = 0
                take(1, 0, -4.9E-324) = 0
                take(2, 0, 0.0) = 2; thread(2, 1) = 2; thread(2, 0) = 0
                take(2, 0, -0.0) = 2; thread(2, 3) = -1
                take(3, 0, 4.9E-324) = 0
                take(4, 0, 1000.0) = 0
                channel(0, 2) = 4
                tick(0.0) = 0
                tick(4.9E-324) = 1; thread(3, 1) = 2; thread(3, 0) = 0
                tick(999.0) = 0; thread(4, 0) = 1
                tick(1.0) = 1; thread(4, 1) = 2
                tick(1000.0) = 0; tick(1000.0) = 0
                thread(0, 0) = 1; thread(1, 0) = 1; channel(0, 2) = 2
                """.replace("K", "" + kind));
        }
    }

    private static void servedAfterwards() {
        Runs.check("then it is SERVED: the first GIVER's ITEM is IN now, the others wait", """
            make(0, 0, 2) = 1
            give(0, 0, 1, 0.0, 0.0) = 1; give(0, 0, 2, 0.0, 0.0) = 1
            give(4, 0, 3, 0.0, 9.0) = 0; give(3, 0, 4, 0.0, -1.0) = 0
            tick(2.0) = 0
            take(1, 0, 0.0) = 1; got(1) = 1; stay(0) = 2.0
            thread(4, 0) = 0; thread(4, 1) = 1; thread(3, 1) = 0
            item(0, 0) = 2; item(0, 1) = 3; channel(0, 1) = 2; channel(0, 2) = 1; channel(0, 5) = 3
            # its END is gone
            tick(2.0) = 0
            take(1, 0, 0.0) = 1; got(1) = 2; stay(0) = 3.0
            # it was IN since 2.0
            take(1, 0, 0.0) = 1; got(1) = 3; stay(0) = 2.6666666666666665
            """);
        Runs.check("then it is SERVED: LINKED with 16 ITEMS", "make(0, 1, 0) = 1\n"
            + "give(0, 0, 1, 0.0, 0.0) = 1\n".repeat(16) + """
            give(0, 0, 2, 0.0, 0.0) = 2
            give(0, 0, 2, 0.0, -1.0) = 0
            item(0, 15) = 1; item(0, 16) = throws.IndexOutOfBoundsException
            take(1, 0, 0.0) = 1
            thread(0, 1) = 1; item(0, 15) = 2; channel(0, 1) = 16
            """);
        Runs.check("then it is SERVED: DELAYED, a GIVER's ITEM that is DUE before the others", """
            make(0, 4, 0) = 1
            give(0, 0, 1, 1.0, 0.0) = 1
            give(0, 0, 2, 9.0, 0.0) = 1; give(0, 0, 3, 9.0, 0.0) = 1; give(0, 0, 4, 9.0, 0.0) = 1
            give(0, 0, 5, 9.0, 0.0) = 1; give(0, 0, 6, 9.0, 0.0) = 1
            give(0, 0, 7, 0.5, -1.0) = 0
            tick(1.0) = 0
            # the first ITEM that is IN, though the GIVER's is DUE before it
            take(1, 0, 0.0) = 1; got(1) = 1
            item(0, 0) = 7; channel(0, 1) = 6; channel(0, 2) = 0
            take(1, 0, 0.0) = 1; got(1) = 7
            take(1, 0, 0.0) = 2
            """);
    }

    private static void whatItGot() {
        Runs.check("its value is what the THREAD GOT, the smallest, the largest, 0", """
            make(0, 1, 0) = 1; make(1, 2, 0) = 2
            give(0, 0, -2147483648, 0.0, 0.0) = 1; give(0, 0, 2147483647, 0.0, 0.0) = 1; give(0, 0, 0, 0.0, 0.0) = 1
            take(5, 0, 0.0) = 1; got(5) = -2147483648
            take(5, 0, 0.0) = 1; got(5) = 2147483647
            take(5, 0, 0.0) = 1; got(5) = 0
            give(0, 1, -2147483648, 0.0, -1.0) = 0; take(5, 1, 0.0) = 1; got(5) = -2147483648
            take(5, 1, -1.0) = 0; give(0, 1, 2147483647, 0.0, 0.0) = 1; got(5) = 2147483647
            """);
    }

    private static void asLongAsAnObjectIsUsed() {
        StringBuilder run = new StringBuilder("make(0, 1, 0) = 1\n");
        for (int i = 1; i <= 255; i++) {
            run.append("give(0, 0, " + i + ", 0.0, 0.0) = 1; take(1, 0, 0.0) = 1\n");
        }
        run.append("got(1) = 255\n");
        Runs.check("An object is used for at most 512 calls: all of them answer", run.toString());
    }
}

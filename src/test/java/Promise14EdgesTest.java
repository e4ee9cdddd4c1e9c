/** stay, at the edges. */
public final class Promise14EdgesTest {
    public static void main(String[] args) {
        Cross.check("stay: what is thrown, in this order", """
            make(0, 1, 0) = 1; make(7, 1, 0) = 2; make(2, 1, 0) = 3; make(3, 5, 0) = 4; make(4, 6, 2) = 5
            give(0, 0, 1, 0.0, 0.0) = 1; take(0, 0, 0.0) = 1; give(0, 7, 1, 0.0, 0.0) = 1; take(0, 7, 0.0) = 1
            """, "stay", "0 7 NSE 1 6 AE 2 3 4 IAE -1 8 -2147483648 2147483647");
        never();
        once();
        mean();
        whatDoesNotCount();
        direct();
        Runs.end();
    }

    private static void never() {
        for (int kind = 0; kind <= 4; kind++) {
            Runs.check("never: ArithmeticException, though ITEMS are IN, GIVERS and TAKERS wait: KIND " + kind, """
                make(0, K, A) = 1
                stay(0) = throws.ArithmeticException
                give(0, 0, 1, 1.0, 0.0) = R
                tick(0.5) = 0
                stay(0) = throws.ArithmeticException
                """.replace("K", "" + kind).replace("A)", (kind == 0 ? 1 : 0) + ")").replace("R", kind == 2 ? "2" : "1"));
            Runs.check("never: ArithmeticException, though a TAKER was LATE: KIND " + kind, """
                make(0, K, A) = 1
                take(0, 0, 1.0) = 0
                tick(1.0) = 1
                take(0, 0, 0.0) = 2
                stay(0) = throws.ArithmeticException
                """.replace("K", "" + kind).replace("A)", (kind == 0 ? 1 : 0) + ")"));
        }
        Runs.check("never: ArithmeticException, for an EXCHANGE and a BARRIER always", """
            make(0, 5, 0) = 1; make(1, 6, 2) = 2
            swap(0, 0, 1, -1.0) = 0; tick(1.0) = 0; swap(1, 0, 1, -1.0) = 1
            arrive(0, 1, -1.0) = 0; tick(1.0) = 0; arrive(1, 1, -1.0) = 1
            stay(0) = throws.ArithmeticException
            stay(1) = throws.ArithmeticException
            """);
    }

    private static void once() {
        int[] kinds = {0, 1, 3, 4};
        for (int kind : kinds) {
            Runs.check("how long it was IN: no time, a moment, long: KIND " + kind, """
                make(0, K, A) = 1; make(1, K, A) = 2; make(2, K, A) = 3; make(3, K, A) = 4
                give(0, 0, 1, 0.0, 0.0) = 1; take(1, 0, 0.0) = 1; stay(0) = 0.0
                give(0, 1, 1, 0.0, 0.0) = 1; give(0, 2, 1, 0.0, 0.0) = 1
                tick(4.9E-324) = 0
                take(1, 1, 0.0) = 1; stay(1) = 4.9E-324
                tick(1000.0) = 0; tick(1000.0) = 0
                take(1, 2, 0.0) = 1; stay(2) = 2000.0
                # a TAKER that waited long TAKES it at once
                take(1, 3, -1.0) = 0; tick(1000.0) = 0; give(0, 3, 1, 0.0, 0.0) = 1; stay(3) = 0.0
                """.replace("K", "" + kind).replace("A)", (kind == 0 ? 1 : 0) + ")"));
        }
    }

    private static void mean() {
        Runs.check("its sum divided by how often something was added", """
            make(0, 1, 0) = 1; make(1, 1, 0) = 2
            give(0, 0, 1, 0.0, 0.0) = 1; give(0, 0, 2, 0.0, 0.0) = 1; give(0, 0, 3, 0.0, 0.0) = 1
            take(1, 0, 0.0) = 1; stay(0) = 0.0
            tick(1.0) = 0
            take(1, 0, 0.0) = 1; stay(0) = 0.5; stay(0) = 0.5
            take(1, 0, 0.0) = 1; stay(0) = 0.6666666666666666
            # of this CHANNEL alone
            stay(1) = throws.ArithmeticException
            # one that TAKES nothing adds nothing
            take(1, 0, 0.0) = 2; stay(0) = 0.6666666666666666
            """);
        Runs.check("its sum: added up as they were taken", """
            make(0, 1, 0) = 1
            tick(0.1) = 0; give(0, 0, 1, 0.0, 0.0) = 1
            tick(0.2) = 0; give(0, 0, 2, 0.0, 0.0) = 1
            tick(0.7) = 0; take(1, 0, 0.0) = 1; take(1, 0, 0.0) = 1
            time() = 1.0
            stay(0) = 0.8
            """);
        StringBuilder run = new StringBuilder("make(0, 0, 1) = 1\n");
        for (int i = 1; i <= 100; i++) {
            run.append("give(0, 0, 1, 0.0, 0.0) = 1; tick(2.0) = 0; take(1, 0, 0.0) = 1; stay(0) = 2.0\n");
        }
        Runs.check("its sum: as often as it is", run.toString());
    }

    private static void whatDoesNotCount() {
        Runs.check("how long it was IN: not while its GIVER waited", """
            make(0, 0, 1) = 1
            give(0, 0, 1, 0.0, 0.0) = 1; give(1, 0, 2, 0.0, -1.0) = 0
            tick(4.0) = 0
            take(2, 0, 0.0) = 1; stay(0) = 4.0
            take(2, 0, 0.0) = 1; stay(0) = 2.0
            """);
        Runs.check("how long it was IN: DELAYED from when it was put IN, not from when it was DUE", """
            make(0, 4, 0) = 1
            tick(1.0) = 0
            give(0, 0, 1, 2.0, 0.0) = 1
            tick(5.0) = 0
            take(1, 0, 0.0) = 1; stay(0) = 5.0
            """);
        Runs.check("how long it was IN: until the moment within a tick", """
            make(0, 4, 0) = 1
            give(0, 0, 1, 2.0, 0.0) = 1
            take(1, 0, -1.0) = 0
            tick(1000.0) = 0; stay(0) = 2.0
            """);
    }

    private static void direct() {
        Runs.check("DIRECT: 0.0, by give, by take, however long they waited", """
            make(0, 2, 0) = 1
            give(0, 0, 1, 0.0, -1.0) = 0; tick(9.0) = 0
            stay(0) = throws.ArithmeticException
            take(1, 0, 0.0) = 1; stay(0) = 0.0
            take(1, 0, -1.0) = 0; tick(9.0) = 0; give(0, 0, 1, 0.0, 0.0) = 1; stay(0) = 0.0
            """);
    }
}

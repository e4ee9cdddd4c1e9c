/** arrive, at the edges. */
public final class Promise06EdgesTest {
    public static void main(String[] args) {
        whatIsThrown();
        broken();
        flag();
        everyNumberOfParties();
        passedAgain();
        whatItGot();
        limitOfNothing();
        limits();
        waitersThatBreakIt();
        Runs.end();
    }

    private static void whatIsThrown() {
        // THREAD 1 is BLOCKED at the whole BARRIER 6, 2 elsewhere; 5 is BROKEN; the FLAG of 4 is set.
        Cross.check("arrive: what is thrown, in this order", """
            make(0, 0, 1) = 1; make(1, 1, 0) = 2; make(2, 2, 0) = 3; make(3, 5, 0) = 4; make(4, 4, 0) = 5
            make(5, 6, 2) = 6; make(6, 6, 3) = 7
            arrive(0, 5, 0.0) = 2
            arrive(1, 6, 3.0) = 0
            take(2, 1, 3.0) = 0
            interrupt(4) = -1
            """, "arrive",
            "0 5 4 ISE 1 2 IAE -1 6 -2147483648 2147483647",
            "6 NSE 7 UOE 0 1 2 3 4 AE 5 IAE -1 8 -2147483648 2147483647",
            "-1.0 -0.0 0.0 4.9E-324 1000.0 IAE -1.0000000000000002 1000.0000000000001 NaN -Infinity Infinity -2.0 1001.0");
        Cross.check("arrive: KIND 3 is another KIND too", "make(0, 3, 0) = 1", "arrive", "0 5", "UOE 0", "-1.0 0.0");
    }

    private static void broken() {
        Runs.check("It is BROKEN: ArithmeticException, before the FLAG, which stays, for every limit", """
            make(0, 6, 2) = 1
            arrive(0, 0, 0.0) = 2
            interrupt(1) = -1
            arrive(1, 0, -1.0) = throws.ArithmeticException
            arrive(1, 0, 0.0) = throws.ArithmeticException
            arrive(1, 0, 5.0) = throws.ArithmeticException
            thread(1, 2) = 1; thread(1, 1) = -1; thread(1, 0) = 0
            arrive(0, 0, 0.0) = throws.ArithmeticException
            thread(0, 1) = 2
            """);
        Runs.check("It is BROKEN: by FLAG, by limit 0.0, by LATE, by INTERRUPTED, until it is reset", """
            make(0, 6, 3) = 1; make(1, 6, 3) = 2; make(2, 6, 3) = 3; make(3, 6, 3) = 4; make(4, 6, 3) = 5
            interrupt(0) = -1; arrive(0, 0, -1.0) = 3
            arrive(0, 1, 0.0) = 2
            arrive(0, 2, 1.0) = 0; tick(1.0) = 1
            arrive(0, 3, -1.0) = 0; interrupt(0) = 3
            channel(0, 3) = 0; channel(1, 3) = 0; channel(2, 3) = 0; channel(3, 3) = 0; channel(4, 3) = 1
            arrive(5, 0, -1.0) = throws.ArithmeticException
            arrive(5, 1, -1.0) = throws.ArithmeticException
            arrive(5, 2, -1.0) = throws.ArithmeticException
            arrive(5, 3, -1.0) = throws.ArithmeticException
            reset(0) = 0; reset(1) = 0; reset(2) = 0; reset(3) = 0
            arrive(0, 0, -1.0) = 0; arrive(1, 1, -1.0) = 0; arrive(2, 2, -1.0) = 0; arrive(3, 3, -1.0) = 0
            arrive(4, 4, -1.0) = 0
            """);
    }

    private static void flag() {
        Runs.check("FLAG as for give, and it is BROKEN: none waits", """
            make(0, 6, 2) = 1
            interrupt(0) = -1
            arrive(0, 0, 0.0) = 3
            thread(0, 0) = 0; thread(0, 1) = 3; thread(0, 2) = 0
            channel(0, 3) = 0; channel(0, 2) = 0; channel(0, 4) = 0
            got(0) = throws.NoSuchElementException
            """);
        Runs.check("FLAG as for give, and it is BROKEN: all its WAITERS get OUTCOME 4", """
            make(0, 6, 5) = 1
            arrive(5, 0, -1.0) = 0; arrive(2, 0, 1.0) = 0; arrive(1, 0, -1.0) = 0
            interrupt(0) = -1
            arrive(0, 0, -1.0) = 3
            thread(0, 1) = 3; thread(0, 2) = 0; thread(0, 0) = 0
            thread(5, 1) = 4; thread(2, 1) = 4; thread(1, 1) = 4
            thread(5, 0) = 0; thread(2, 0) = 0; thread(1, 0) = 0; thread(1, 3) = -1
            thread(5, 2) = 0; thread(2, 2) = 0
            got(5) = 0; got(2) = 1; got(1) = 2
            channel(0, 2) = 0; channel(0, 3) = 0; channel(0, 5) = -1
            # no END is left
            tick(5.0) = 0; thread(2, 1) = 4
            """);
        Runs.check("FLAG as for give, and it is BROKEN: also if one less than PARTIES wait", """
            make(0, 6, 3) = 1
            arrive(1, 0, -1.0) = 0; arrive(2, 0, -1.0) = 0
            interrupt(0) = -1
            arrive(0, 0, 0.0) = 3
            thread(1, 1) = 4; thread(2, 1) = 4; channel(0, 4) = 0; channel(0, 3) = 0
            """);
        Runs.check("FLAG as for give: that of another counts for nothing and stays", """
            make(0, 6, 2) = 1
            interrupt(1) = -1
            arrive(0, 0, -1.0) = 0
            channel(0, 3) = 1; thread(1, 2) = 1
            """);
    }

    private static void everyNumberOfParties() {
        for (int parties = 2; parties <= 5; parties++) {
            StringBuilder run = new StringBuilder("make(0, 6, " + parties + ") = 1\n");
            for (int t = 5; t > 6 - parties; t--) {
                int before = 5 - t;
                run.append("channel(0, 2) = " + before + "; arrive(" + t + ", 0, 9.0) = 0; got(" + t + ") = " + before + "\n");
                run.append("thread(" + t + ", 0) = 1; thread(" + t + ", 1) = 0; channel(0, " + (5 + before) + ") = " + t + "\n");
            }
            run.append("channel(0, 4) = 0; arrive(0, 0, 0.0) = 1; channel(0, 4) = 1; channel(0, 2) = 0; channel(0, 3) = 1\n");
            run.append("thread(0, 1) = 1; thread(0, 0) = 0; got(0) = throws.NoSuchElementException\n");
            for (int t = 5; t > 6 - parties; t--) {
                run.append("thread(" + t + ", 0) = 0; thread(" + t + ", 1) = 1; thread(" + t + ", 3) = -1\n");
            }
            run.append("tick(20.0) = 0; channel(0, 3) = 1\n");
            Runs.check("One less than PARTIES wait: of " + parties, run.toString());
        }
    }

    private static void passedAgain() {
        StringBuilder run = new StringBuilder("make(7, 6, 2) = 1\n");
        for (int i = 1; i <= 100; i++) {
            run.append("arrive(0, 7, -1.0) = 0; arrive(5, 7, 0.0) = 1; channel(7, 4) = " + i + "; got(0) = 0\n");
        }
        Runs.check("it was PASSED once more, as often as it is", run.toString());
        Runs.check("it was PASSED once more: not by WAITERS at another BARRIER", """
            make(0, 6, 2) = 1; make(1, 6, 2) = 2
            arrive(0, 0, -1.0) = 0
            arrive(1, 1, -1.0) = 0
            got(1) = 0
            arrive(2, 1, -1.0) = 1
            channel(0, 4) = 0; channel(1, 4) = 1; thread(0, 1) = 0
            """);
    }

    private static void whatItGot() {
        Runs.check("what it GOT is how many waited before it, but not for the last one nor for a FLAG", """
            make(0, 1, 0) = 1; make(1, 6, 3) = 2
            give(0, 0, 70, 0.0, 0.0) = 1; give(0, 0, 71, 0.0, 0.0) = 1; give(0, 0, 72, 0.0, 0.0) = 1
            take(0, 0, 0.0) = 1; take(1, 0, 0.0) = 1; take(2, 0, 0.0) = 1
            arrive(0, 1, -1.0) = 0; got(0) = 0
            arrive(1, 1, -1.0) = 0; got(1) = 1
            arrive(2, 1, -1.0) = 1; got(2) = 72
            got(0) = 0; got(1) = 1
            interrupt(2) = 1
            arrive(2, 1, -1.0) = 3; got(2) = 72
            """);
    }

    private static void limitOfNothing() {
        Runs.check("but for limit 0.0 it is BROKEN: none waits", """
            make(0, 6, 2) = 1
            arrive(0, 0, 0.0) = 2
            thread(0, 0) = 0; thread(0, 1) = 2; got(0) = 0
            channel(0, 2) = 0; channel(0, 3) = 0; channel(0, 4) = 0
            """);
        Runs.check("but for limit 0.0 it is BROKEN: all its WAITERS get OUTCOME 4", """
            make(0, 6, 5) = 1
            arrive(5, 0, -1.0) = 0; arrive(2, 0, 1.0) = 0; arrive(1, 0, -1.0) = 0
            arrive(0, 0, 0.0) = 2
            thread(0, 1) = 2; thread(0, 0) = 0; got(0) = 3
            thread(5, 1) = 4; thread(2, 1) = 4; thread(1, 1) = 4
            thread(5, 0) = 0; thread(2, 0) = 0; thread(1, 0) = 0; thread(2, 3) = -1
            got(5) = 0; got(2) = 1; got(1) = 2
            channel(0, 2) = 0; channel(0, 3) = 0
            # no END is left
            tick(5.0) = 0; thread(2, 1) = 4
            """);
        Runs.check("but for limit 0.0 it is BROKEN: -0.0 is 0.0", """
            make(0, 6, 3) = 1
            arrive(1, 0, -1.0) = 0
            arrive(0, 0, -0.0) = 2
            thread(1, 1) = 4; channel(0, 3) = 0
            """);
        Runs.check("limit 0.0 where one less than PARTIES wait lets all pass", """
            make(0, 6, 2) = 1
            arrive(1, 0, -1.0) = 0
            arrive(0, 0, 0.0) = 1
            channel(0, 3) = 1; channel(0, 4) = 1; thread(1, 1) = 1
            """);
    }

    private static void limits() {
        Runs.check("it WAITS: above 0.0 until its END, below without one", """
            make(0, 6, 2) = 1; make(1, 6, 2) = 2; make(2, 6, 2) = 3; make(3, 6, 2) = 4
            arrive(0, 0, -1.0) = 0
            arrive(1, 1, -4.9E-324) = 0
            arrive(2, 2, 4.9E-324) = 0
            arrive(3, 3, 1000.0) = 0
            tick(0.0) = 0; channel(2, 3) = 1
            tick(4.9E-324) = 1; thread(2, 1) = 2; channel(2, 3) = 0
            tick(999.0) = 0; thread(3, 0) = 1; channel(3, 3) = 1
            tick(1.0) = 1; thread(3, 1) = 2; channel(3, 3) = 0
            tick(1000.0) = 0; tick(1000.0) = 0
            thread(0, 0) = 1; thread(1, 0) = 1; channel(0, 3) = 1; channel(1, 3) = 1
            """);
    }

    private static void waitersThatBreakIt() {
        Runs.check("A WAITER that is LATE: it is BROKEN, all its other WAITERS get OUTCOME 4, other BARRIERS none", """
            make(0, 6, 5) = 1; make(1, 6, 5) = 2
            arrive(4, 0, 9.0) = 0; arrive(3, 0, 2.0) = 0; arrive(2, 0, -1.0) = 0; arrive(1, 1, -1.0) = 0
            tick(2.0) = 1
            thread(4, 1) = 4; thread(3, 1) = 2; thread(2, 1) = 4; thread(1, 1) = 0
            channel(0, 3) = 0; channel(0, 2) = 0; channel(1, 3) = 1; channel(1, 2) = 1
            got(4) = 0; got(3) = 1; got(2) = 2
            """);
        Runs.check("A WAITER that is INTERRUPTED: it is BROKEN, all its other WAITERS get OUTCOME 4", """
            make(0, 6, 5) = 1; make(1, 6, 5) = 2
            arrive(4, 0, 9.0) = 0; arrive(3, 0, 2.0) = 0; arrive(2, 0, -1.0) = 0; arrive(1, 1, -1.0) = 0
            interrupt(3) = 3
            thread(4, 1) = 4; thread(3, 1) = 3; thread(2, 1) = 4; thread(1, 1) = 0
            thread(4, 2) = 0; thread(3, 2) = 0; thread(2, 2) = 0
            channel(0, 3) = 0; channel(0, 2) = 0; channel(1, 3) = 1; channel(1, 2) = 1
            """);
    }
}

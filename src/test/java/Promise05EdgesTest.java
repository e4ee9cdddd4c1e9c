/** swap, at the edges. */
public final class Promise05EdgesTest {
    public static void main(String[] args) {
        whatIsThrown();
        flag();
        oneWaits();
        noneWaits();
        limits();
        Runs.end();
    }

    private static void whatIsThrown() {
        // THREAD 1 is BLOCKED there, the FLAG of 4 is set; a call that throws must leave both alone.
        Cross.check("swap: what is thrown, in this order", """
            make(0, 0, 1) = 1; make(1, 1, 0) = 2; make(2, 2, 0) = 3; make(3, 3, 0) = 4; make(4, 4, 0) = 5
            make(5, 5, 0) = 6; make(6, 6, 2) = 7
            swap(1, 5, 8, 3.0) = 0
            interrupt(4) = -1
            """, "swap",
            "0 5 4 ISE 1 IAE -1 6 -2147483648 2147483647",
            "5 NSE 7 UOE 0 1 2 3 4 6 IAE -1 8 -2147483648 2147483647",
            "-2147483648 2147483647",
            "-1.0 -0.0 0.0 4.9E-324 1000.0 IAE -1.0000000000000002 1000.0000000000001 NaN -Infinity Infinity -2.0 1001.0");
        Runs.check("swap: thrown too where the FLAG is set, which stays", """
            make(5, 5, 0) = 1; make(6, 6, 2) = 2
            swap(1, 5, 8, -1.0) = 0
            interrupt(0) = -1
            swap(0, 5, 1, 1001.0) = throws.IllegalArgumentException
            swap(0, 4, 1, 0.0) = throws.NoSuchElementException
            swap(1, 5, 1, 0.0) = throws.IllegalStateException
            swap(1, 6, 1, 0.0) = throws.IllegalStateException
            swap(0, 6, 1, 0.0) = throws.UnsupportedOperationException
            thread(0, 2) = 1; thread(0, 1) = -1; channel(5, 2) = 1
            """);
    }

    private static void flag() {
        Runs.check("FLAG as for give: the one that waits goes on waiting", """
            make(0, 5, 0) = 1
            swap(1, 0, 8, -1.0) = 0
            interrupt(0) = -1
            swap(0, 0, 9, -1.0) = 3
            thread(0, 0) = 0; thread(0, 1) = 3; thread(0, 2) = 0; got(0) = throws.NoSuchElementException
            thread(1, 0) = 1; got(1) = throws.NoSuchElementException; channel(0, 2) = 1
            # only once
            swap(0, 0, 9, -1.0) = 1
            got(0) = 8; got(1) = 9
            """);
        Runs.check("FLAG as for give: where none waits, for every limit, and it waits not", """
            make(0, 5, 0) = 1
            interrupt(0) = -1; swap(0, 0, 9, 0.0) = 3
            interrupt(0) = 3; swap(0, 0, 9, 2.0) = 3
            interrupt(0) = 3; swap(0, 0, 9, -1.0) = 3
            channel(0, 2) = 0; thread(0, 0) = 0
            # that of another counts for nothing and stays
            interrupt(1) = -1
            swap(0, 0, 9, 0.0) = 2
            thread(1, 2) = 1
            """);
    }

    private static void oneWaits() {
        Runs.check("One WAITS: each GOT the other's value, whatever the limit", """
            make(0, 5, 0) = 1
            swap(0, 0, -2147483648, 1000.0) = 0
            swap(5, 0, 2147483647, 0.0) = 1
            got(0) = 2147483647; got(5) = -2147483648
            thread(0, 0) = 0; thread(0, 1) = 1; thread(0, 3) = -1; thread(5, 0) = 0; thread(5, 1) = 1
            channel(0, 2) = 0; channel(0, 1) = 0; channel(0, 5) = -1
            swap(0, 0, 1, -1.0) = 0; swap(5, 0, 2, -1.0) = 1; got(0) = 2; got(5) = 1
            swap(0, 0, 3, -1.0) = 0; swap(5, 0, 4, 1000.0) = 1; got(0) = 4; got(5) = 3
            swap(0, 0, 7, -1.0) = 0; swap(5, 0, 7, 5.0) = 1; got(0) = 7; got(5) = 7
            # the END of the one that waited is gone
            tick(1000.0) = 0; thread(0, 1) = 1
            stay(0) = throws.ArithmeticException
            """);
        Runs.check("One WAITS: never two, a third one is the next to wait", """
            make(0, 5, 0) = 1
            swap(0, 0, 10, -1.0) = 0; channel(0, 2) = 1
            swap(1, 0, 11, -1.0) = 1; channel(0, 2) = 0
            swap(2, 0, 12, -1.0) = 0; channel(0, 2) = 1; channel(0, 5) = 2
            swap(3, 0, 13, -1.0) = 1
            swap(4, 0, 14, -1.0) = 0
            swap(5, 0, 15, -1.0) = 1
            got(0) = 11; got(1) = 10; got(2) = 13; got(3) = 12; got(4) = 15; got(5) = 14
            """);
        Runs.check("One WAITS: at another EXCHANGE counts for nothing", """
            make(0, 5, 0) = 1; make(7, 5, 0) = 2
            swap(0, 0, 10, -1.0) = 0
            swap(1, 7, 11, 0.0) = 2
            swap(1, 7, 11, -1.0) = 0
            swap(2, 7, 12, 0.0) = 1
            got(2) = 11; got(1) = 12; thread(0, 1) = 0
            """);
    }

    private static void noneWaits() {
        Runs.check("Else it WAITS with the value; what it GOT before stays", """
            make(0, 5, 0) = 1; make(1, 1, 0) = 2
            give(0, 1, 77, 0.0, 0.0) = 1; take(0, 1, 0.0) = 1
            swap(0, 0, 10, -1.0) = 0
            got(0) = 77; thread(0, 0) = 1; thread(0, 1) = 0; thread(0, 3) = 0
            channel(0, 1) = 0; channel(0, 2) = 1; channel(0, 3) = 0; channel(0, 5) = 0
            item(0, 0) = throws.IndexOutOfBoundsException
            """);
        Runs.check("one that was LATE or INTERRUPTED waits no more, so it WAITS", """
            make(0, 5, 0) = 1
            swap(0, 0, 10, 1.0) = 0
            tick(1.0) = 1
            swap(1, 0, 11, 0.0) = 2
            swap(1, 0, 11, -1.0) = 0
            interrupt(1) = 3
            swap(2, 0, 12, 0.0) = 2
            swap(2, 0, 12, -1.0) = 0
            got(0) = throws.NoSuchElementException; got(1) = throws.NoSuchElementException
            """);
    }

    private static void limits() {
        Runs.check("To WAIT: limit 0.0 waits not, above until its END, below without one", """
            make(0, 5, 0) = 1; make(1, 5, 0) = 2; make(2, 5, 0) = 3; make(3, 5, 0) = 4; make(4, 5, 0) = 5
            swap(0, 0, 1, -1.0) = 0
            swap(1, 1, 1, -4.9E-324) = 0
            swap(2, 2, 1, 0.0) = 2; thread(2, 1) = 2; thread(2, 0) = 0
            swap(2, 2, 1, -0.0) = 2; thread(2, 3) = -1; channel(2, 2) = 0
            swap(3, 3, 1, 4.9E-324) = 0
            swap(4, 4, 1, 1000.0) = 0
            tick(0.0) = 0
            tick(4.9E-324) = 1; thread(3, 1) = 2; thread(3, 0) = 0; channel(3, 2) = 0
            tick(999.0) = 0; thread(4, 0) = 1
            tick(1.0) = 1; thread(4, 1) = 2
            tick(1000.0) = 0; tick(1000.0) = 0
            thread(0, 0) = 1; thread(1, 0) = 1
            """);
    }
}

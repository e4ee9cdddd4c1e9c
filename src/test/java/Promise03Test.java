/** give: to put an ITEM into a CHANNEL, to hand it over, or to wait. */
public final class Promise03Test {
    public static void main(String[] args) {
        Runs.check("a full buffer makes givers wait, in order", """
            make(0, 0, 2) = 1
            give(0, 0, 10, 0.0, 5.0) = 1
            thread(0, 0) = 0
            thread(0, 1) = 1
            give(0, 0, 11, 9.0, 0.0) = 1
            give(0, 0, 12, 0.0, 0.0) = 2
            thread(0, 1) = 2
            thread(0, 0) = 0
            channel(0, 2) = 0
            give(0, 0, 12, 0.0, -0.0) = 2
            give(1, 0, 13, 0.0, -1.0) = 0
            give(0, 0, 14, 0.0, 1.0) = 0
            thread(1, 0) = 1
            thread(1, 1) = 0
            channel(0, 2) = 2
            channel(0, 5) = 1
            channel(0, 6) = 0
            item(0, 0) = 10
            item(0, 1) = 11
            item(0, 2) = throws.IndexOutOfBoundsException
            take(5, 0, 0.0) = 1
            item(0, 0) = 11
            item(0, 1) = 13
            thread(1, 1) = 1
            thread(0, 1) = 0
            got(1) = throws.NoSuchElementException
            """);

        Runs.check("a waiting taker is served at once", """
            make(0, 1, 0) = 1
            take(3, 0, -1.0) = 0
            take(2, 0, -1.0) = 0
            give(0, 0, 7, 0.0, 0.0) = 1
            got(3) = 7
            thread(3, 1) = 1
            thread(3, 0) = 0
            thread(2, 1) = 0
            channel(0, 1) = 0
            channel(0, 2) = 1
            stay(0) = 0.0
            """);

        Runs.check("direct: only a taker takes it", """
            make(0, 2, 0) = 1
            give(0, 0, 7, 0.0, 0.0) = 2
            channel(0, 1) = 0
            give(0, 0, 7, 0.0, 1.0) = 0
            give(1, 0, 8, 0.0, 0.0) = 2
            channel(0, 2) = 1
            channel(0, 1) = 0
            channel(0, 3) = 0
            take(2, 0, 0.0) = 1
            got(2) = 7
            thread(0, 1) = 1
            take(2, 0, -1.0) = 0
            take(3, 0, -1.0) = 0
            give(0, 0, -9, 0.0, 0.0) = 1
            got(2) = -9
            thread(2, 1) = 1
            thread(3, 1) = 0
            channel(0, 2) = 1
            stay(0) = 0.0
            """);

        Runs.check("ranked: falling ranks, the same as they came", """
            make(0, 3, 0) = 1
            give(0, 0, 1, -1000.0, 0.0) = 1
            give(0, 0, 2, 1000.0, 0.0) = 1
            give(0, 0, 3, 0.0, 0.0) = 1
            give(0, 0, 4, -0.0, 0.0) = 1
            give(0, 0, 5, 0.0, 0.0) = 1
            give(0, 0, 6, 1000.0, 0.0) = 1
            give(0, 0, 7, 1.0, 0.0) = 2
            item(0, 0) = 2
            item(0, 1) = 6
            item(0, 2) = 3
            item(0, 3) = 4
            item(0, 4) = 5
            item(0, 5) = 1
            give(0, 0, 8, 1.0, -1.0) = 0
            take(1, 0, 0.0) = 1
            got(1) = 2
            item(0, 1) = 8
            """);

        Runs.check("delayed: rising due times, the same as they came, none below 0.0", """
            make(0, 4, 0) = 1
            tick(10.0) = 0
            give(0, 0, 1, 2.0, 0.0) = 1
            give(0, 0, 2, 1.0, 0.0) = 1
            give(0, 0, 3, 2.0, 0.0) = 1
            give(0, 0, 4, -5.0, 0.0) = 1
            give(0, 0, 5, 0.0, 0.0) = 1
            give(0, 0, 6, -1000.0, 0.0) = 1
            give(0, 0, 7, 0.0, 0.0) = 2
            item(0, 0) = 4
            item(0, 1) = 5
            item(0, 2) = 6
            item(0, 3) = 2
            item(0, 4) = 1
            item(0, 5) = 3
            """);

        Runs.check("delayed: a delay may be very small", """
            make(0, 4, 0) = 1
            give(0, 0, 1, 4.9E-324, 0.0) = 1
            channel(0, 3) = 0
            give(0, 0, 2, 0.0625, 0.0) = 1
            tick(0.03125) = 0
            take(1, 0, 0.0) = 1
            take(1, 0, 0.0) = 2
            """);

        Runs.check("delayed: the due time is that of the call, not of the way in", """
            make(0, 4, 0) = 1
            give(0, 0, 1, 0.0, 0.0) = 1
            give(0, 0, 2, 9.0, 0.0) = 1
            give(0, 0, 3, 9.0, 0.0) = 1
            give(0, 0, 4, 9.0, 0.0) = 1
            give(0, 0, 5, 9.0, 0.0) = 1
            give(0, 0, 6, 9.0, 0.0) = 1
            give(0, 0, 7, 4.0, -1.0) = 0
            tick(4.0) = 0
            take(1, 0, 0.0) = 1
            got(1) = 1
            stay(0) = 4.0
            channel(0, 3) = 1
            item(0, 0) = 7
            take(1, 0, 0.0) = 1
            got(1) = 7
            # it was in for no time at all
            stay(0) = 2.0
            """);

        Runs.check("x counts for nothing in a buffer, a linked one, a direct one", """
            make(0, 0, 4) = 1
            make(1, 1, 0) = 2
            make(2, 2, 0) = 3
            give(0, 0, 1, 1.0, 0.0) = 1
            give(0, 0, 2, 2.0, 0.0) = 1
            give(0, 0, 3, -3.0, 0.0) = 1
            item(0, 0) = 1
            item(0, 1) = 2
            item(0, 2) = 3
            channel(0, 3) = 1
            give(0, 1, 1, 5.0, 0.0) = 1
            give(0, 1, 2, 6.0, 0.0) = 1
            give(0, 1, 3, -6.0, 0.0) = 1
            item(1, 0) = 1
            item(1, 2) = 3
            take(1, 1, 0.0) = 1
            got(1) = 1
            give(2, 2, 1, -7.0, -1.0) = 0
            give(3, 2, 2, 7.0, -1.0) = 0
            take(1, 2, 0.0) = 1
            got(1) = 1
            """);

        Runs.check("the flag is lost, and nothing is given", """
            make(0, 1, 0) = 1
            make(1, 2, 0) = 2
            interrupt(0) = -1
            give(0, 0, 1, 0.0, 5.0) = 3
            thread(0, 1) = 3
            thread(0, 2) = 0
            thread(0, 0) = 0
            channel(0, 1) = 0
            channel(0, 2) = 0
            give(0, 0, 1, 0.0, 5.0) = 1
            interrupt(0) = 1
            give(0, 1, 1, 0.0, 0.0) = 3
            """);

        Runs.check("what is thrown, in its order", """
            make(0, 0, 1) = 1
            make(5, 5, 0) = 2
            make(6, 6, 2) = 3
            give(0, 0, 1, 0.0, 0.0) = 1
            give(1, 0, 2, 0.0, -1.0) = 0
            give(-1, 0, 1, 0.0, 0.0) = throws.IllegalArgumentException
            give(6, 0, 1, 0.0, 0.0) = throws.IllegalArgumentException
            give(0, -1, 1, 0.0, 0.0) = throws.IllegalArgumentException
            give(0, 8, 1, 0.0, 0.0) = throws.IllegalArgumentException
            give(0, 0, 1, -1000.5, 0.0) = throws.IllegalArgumentException
            give(0, 0, 1, 1000.5, 0.0) = throws.IllegalArgumentException
            give(0, 0, 1, 1000.0000000000001, 0.0) = throws.IllegalArgumentException
            give(0, 0, 1, -1000.0000000000001, 0.0) = throws.IllegalArgumentException
            give(0, 0, 1, NaN, 0.0) = throws.IllegalArgumentException
            give(0, 0, 1, Infinity, 0.0) = throws.IllegalArgumentException
            give(0, 0, 1, 0.0, -1.5) = throws.IllegalArgumentException
            give(0, 0, 1, 0.0, 1000.5) = throws.IllegalArgumentException
            give(0, 0, 1, 0.0, 1000.0000000000001) = throws.IllegalArgumentException
            give(0, 0, 1, 0.0, -1.0000000000000002) = throws.IllegalArgumentException
            give(0, 0, 1, 0.0, NaN) = throws.IllegalArgumentException
            give(0, 0, 1, 0.0, -Infinity) = throws.IllegalArgumentException
            give(1, 4, 1, 0.0, 1000.5) = throws.IllegalArgumentException
            give(1, 4, 1, 0.0, 0.0) = throws.NoSuchElementException
            give(1, 5, 1, 0.0, 0.0) = throws.IllegalStateException
            give(1, 0, 1, 0.0, 0.0) = throws.IllegalStateException
            give(0, 5, 1, 0.0, 0.0) = throws.UnsupportedOperationException
            give(0, 6, 1, 0.0, 0.0) = throws.UnsupportedOperationException
            interrupt(0) = 1
            # a flag is not lost by a call that throws
            give(0, 6, 1, 0.0, 0.0) = throws.UnsupportedOperationException
            thread(0, 2) = 1
            thread(0, 1) = 1
            give(2, 0, -2147483648, 1000.0, 1000.0) = 0
            give(3, 0, 2147483647, -1000.0, -1.0) = 0
            take(4, 0, 0.0) = 1
            take(4, 0, 0.0) = 1
            take(4, 0, 0.0) = 1
            got(4) = -2147483648
            take(4, 0, 0.0) = 1
            got(4) = 2147483647
            """);
        Runs.end();
    }
}

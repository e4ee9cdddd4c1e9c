/** take: to get an ITEM from a CHANNEL, from a GIVER's hand, or to wait. */
public final class Promise04Test {
    public static void main(String[] args) {
        Runs.check("a buffer in its order", """
            make(0, 0, 3) = 1
            give(0, 0, 5, 0.0, 0.0) = 1
            give(0, 0, 6, 0.0, 0.0) = 1
            take(0, 0, 0.0) = 1
            got(0) = 5
            thread(0, 1) = 1
            channel(0, 1) = 1
            take(1, 0, -1.0) = 1
            got(1) = 6
            take(1, 0, 0.0) = 2
            thread(1, 1) = 2
            thread(1, 0) = 0
            got(1) = 6
            channel(0, 2) = 0
            take(1, 0, -0.0) = 2
            take(1, 0, 1.0) = 0
            take(2, 0, 0.0) = 2
            take(2, 0, 2.0) = 0
            channel(0, 2) = 2
            channel(0, 5) = 1
            channel(0, 6) = 2
            thread(2, 3) = 0
            """);

        Runs.check("what is taken makes room for the first giver", """
            make(0, 0, 1) = 1
            give(0, 0, 1, 0.0, 0.0) = 1
            give(1, 0, 2, 0.0, -1.0) = 0
            give(2, 0, 3, 0.0, -1.0) = 0
            take(3, 0, 0.0) = 1
            got(3) = 1
            thread(1, 1) = 1
            thread(2, 1) = 0
            item(0, 0) = 2
            channel(0, 1) = 1
            """);

        Runs.check("direct: from the first giver, who is served", """
            make(0, 2, 0) = 1
            take(3, 0, 0.0) = 2
            give(1, 0, 4, 0.0, -1.0) = 0
            give(0, 0, 5, 0.0, -1.0) = 0
            take(3, 0, 0.0) = 1
            got(3) = 4
            thread(1, 0) = 0
            thread(1, 1) = 1
            thread(0, 0) = 1
            got(1) = throws.NoSuchElementException
            channel(0, 2) = 1
            tick(3.0) = 0
            take(3, 0, 0.0) = 1
            got(3) = 5
            stay(0) = 0.0
            """);

        Runs.check("delayed: not before it is due", """
            make(0, 4, 0) = 1
            give(0, 0, 1, 2.0, 0.0) = 1
            take(1, 0, 0.0) = 2
            tick(1.5) = 0
            take(1, 0, 0.0) = 2
            tick(0.5) = 0
            take(1, 0, 0.0) = 1
            got(1) = 1
            """);

        Runs.check("delayed: a full one with a due giver behind", """
            make(0, 4, 0) = 1
            give(0, 0, 1, 1.0, 0.0) = 1
            give(0, 0, 2, 3.0, 0.0) = 1
            give(0, 0, 3, 3.0, 0.0) = 1
            give(0, 0, 4, 3.0, 0.0) = 1
            give(0, 0, 5, 3.0, 0.0) = 1
            give(0, 0, 6, 3.0, 0.0) = 1
            give(0, 0, 7, 0.0, -1.0) = 0
            take(1, 0, -1.0) = 0
            take(2, 0, -1.0) = 0
            tick(1.0) = 0
            got(1) = 1
            got(2) = 7
            thread(0, 1) = 1
            channel(0, 1) = 5
            channel(0, 2) = 0
            """);

        Runs.check("ranked: the highest first", """
            make(0, 3, 0) = 1
            give(0, 0, 1, 1.0, 0.0) = 1
            give(0, 0, 2, 3.0, 0.0) = 1
            give(0, 0, 3, 2.0, 0.0) = 1
            take(1, 0, 0.0) = 1
            got(1) = 2
            take(1, 0, 0.0) = 1
            got(1) = 3
            take(1, 0, 0.0) = 1
            got(1) = 1
            """);

        Runs.check("the flag is lost, and nothing is taken", """
            make(0, 1, 0) = 1
            make(1, 2, 0) = 2
            give(0, 0, 1, 0.0, 0.0) = 1
            interrupt(0) = 1
            take(0, 0, 0.0) = 3
            thread(0, 1) = 3
            thread(0, 2) = 0
            got(0) = throws.NoSuchElementException
            channel(0, 1) = 1
            interrupt(0) = 3
            take(0, 1, -1.0) = 3
            channel(1, 2) = 0
            take(0, 0, 0.0) = 1
            """);

        Runs.check("what is thrown, in its order", """
            make(0, 1, 0) = 1
            make(5, 5, 0) = 2
            make(6, 6, 2) = 3
            take(1, 0, -1.0) = 0
            take(-1, 0, 0.0) = throws.IllegalArgumentException
            take(6, 0, 0.0) = throws.IllegalArgumentException
            take(0, -1, 0.0) = throws.IllegalArgumentException
            take(0, 8, 0.0) = throws.IllegalArgumentException
            take(0, 0, -1.25) = throws.IllegalArgumentException
            take(0, 0, 1000.25) = throws.IllegalArgumentException
            take(0, 0, 1000.0000000000001) = throws.IllegalArgumentException
            take(0, 0, -1.0000000000000002) = throws.IllegalArgumentException
            take(0, 0, NaN) = throws.IllegalArgumentException
            take(1, 3, 2000.0) = throws.IllegalArgumentException
            take(1, 3, 0.0) = throws.NoSuchElementException
            take(1, 6, 0.0) = throws.IllegalStateException
            take(0, 5, 0.0) = throws.UnsupportedOperationException
            interrupt(0) = -1
            take(0, 6, 0.0) = throws.UnsupportedOperationException
            thread(0, 2) = 1
            thread(0, 1) = -1
            take(2, 0, 1000.0) = 0
            """);
        Runs.end();
    }
}

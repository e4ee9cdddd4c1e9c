/** arrive: a BARRIER of PARTIES. */
public final class Promise06Test {
    public static void main(String[] args) {
        Runs.check("the last of the parties lets all pass", """
            make(0, 6, 3) = 1
            arrive(4, 0, -1.0) = 0
            got(4) = 0
            arrive(2, 0, 9.0) = 0
            got(2) = 1
            channel(0, 2) = 2
            channel(0, 5) = 4
            channel(0, 6) = 2
            thread(2, 3) = 0
            arrive(0, 0, 0.0) = 1
            got(0) = throws.NoSuchElementException
            thread(0, 1) = 1
            thread(2, 1) = 1
            thread(4, 1) = 1
            thread(4, 0) = 0
            channel(0, 2) = 0
            channel(0, 3) = 1
            channel(0, 4) = 1
            arrive(4, 0, -1.0) = 0
            got(4) = 0
            arrive(2, 0, -1.0) = 0
            arrive(0, 0, -1.0) = 1
            channel(0, 4) = 2
            tick(1000.0) = 0
            """);

        Runs.check("two and five parties", """
            make(0, 6, 2) = 1
            make(1, 6, 5) = 2
            arrive(0, 0, -1.0) = 0
            arrive(1, 0, -1.0) = 1
            arrive(0, 1, -1.0) = 0
            arrive(1, 1, -1.0) = 0
            arrive(2, 1, -1.0) = 0
            arrive(3, 1, -1.0) = 0
            got(3) = 3
            channel(1, 4) = 0
            arrive(4, 1, -1.0) = 1
            channel(1, 4) = 1
            channel(1, 2) = 0
            """);

        Runs.check("limit 0.0 breaks it unless it is the last", """
            make(0, 6, 3) = 1
            arrive(0, 0, -1.0) = 0
            arrive(1, 0, 0.0) = 2
            got(1) = 1
            thread(1, 0) = 0
            thread(1, 1) = 2
            thread(0, 0) = 0
            thread(0, 1) = 4
            got(0) = 0
            channel(0, 2) = 0
            channel(0, 3) = 0
            channel(0, 4) = 0
            arrive(2, 0, -1.0) = throws.ArithmeticException
            """);

        Runs.check("a flag breaks it", """
            make(0, 6, 3) = 1
            arrive(0, 0, -1.0) = 0
            interrupt(1) = -1
            arrive(1, 0, -1.0) = 3
            thread(1, 1) = 3
            thread(1, 2) = 0
            got(1) = throws.NoSuchElementException
            thread(0, 1) = 4
            thread(0, 0) = 0
            channel(0, 3) = 0
            channel(0, 2) = 0
            interrupt(2) = -1
            arrive(2, 0, -1.0) = throws.ArithmeticException
            thread(2, 2) = 1
            thread(2, 1) = -1
            """);

        Runs.check("a flag breaks it for the last of the parties too", """
            make(0, 6, 2) = 1
            arrive(0, 0, -1.0) = 0
            interrupt(1) = -1
            arrive(1, 0, -1.0) = 3
            thread(0, 1) = 4
            channel(0, 4) = 0
            """);

        Runs.check("a late or interrupted waiter breaks it", """
            make(0, 6, 4) = 1
            arrive(0, 0, -1.0) = 0
            arrive(1, 0, 1.0) = 0
            arrive(2, 0, 5.0) = 0
            tick(1.0) = 1
            thread(0, 1) = 4
            thread(1, 1) = 2
            thread(2, 1) = 4
            channel(0, 3) = 0
            reset(0) = 0
            arrive(0, 0, -1.0) = 0
            arrive(1, 0, -1.0) = 0
            interrupt(0) = 3
            thread(1, 1) = 4
            channel(0, 3) = 0
            channel(0, 2) = 0
            """);

        Runs.check("what is thrown, in its order", """
            make(0, 6, 2) = 1
            make(1, 5, 0) = 2
            make(2, 0, 1) = 3
            arrive(0, 0, -1.0) = 0
            arrive(-1, 0, 0.0) = throws.IllegalArgumentException
            arrive(6, 0, 0.0) = throws.IllegalArgumentException
            arrive(1, -1, 0.0) = throws.IllegalArgumentException
            arrive(1, 8, 0.0) = throws.IllegalArgumentException
            arrive(1, 0, -1.5) = throws.IllegalArgumentException
            arrive(1, 0, 1000.5) = throws.IllegalArgumentException
            arrive(1, 0, 1000.0000000000001) = throws.IllegalArgumentException
            arrive(1, 0, -1.0000000000000002) = throws.IllegalArgumentException
            arrive(1, 0, NaN) = throws.IllegalArgumentException
            arrive(0, 3, 0.0) = throws.NoSuchElementException
            arrive(0, 1, 0.0) = throws.IllegalStateException
            arrive(0, 0, 0.0) = throws.IllegalStateException
            arrive(1, 1, 0.0) = throws.UnsupportedOperationException
            arrive(1, 2, 0.0) = throws.UnsupportedOperationException
            interrupt(0) = 3
            swap(0, 1, 1, -1.0) = 0
            arrive(0, 0, 0.0) = throws.IllegalStateException
            arrive(1, 0, 0.0) = throws.ArithmeticException
            thread(1, 1) = -1
            """);
        Runs.end();
    }
}

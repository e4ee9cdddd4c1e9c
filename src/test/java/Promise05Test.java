/** swap: two THREADS give each other a value. */
public final class Promise05Test {
    public static void main(String[] args) {
        Runs.check("each gets the other's value", """
            make(4, 5, 0) = 1
            swap(0, 4, 7, -1.0) = 0
            thread(0, 0) = 1
            thread(0, 3) = 4
            got(0) = throws.NoSuchElementException
            channel(4, 1) = 0
            channel(4, 2) = 1
            channel(4, 3) = 0
            channel(4, 5) = 0
            swap(1, 4, 8, 5.0) = 1
            got(0) = 8
            got(1) = 7
            thread(0, 0) = 0
            thread(0, 1) = 1
            thread(1, 0) = 0
            thread(1, 1) = 1
            channel(4, 2) = 0
            swap(1, 4, 9, 0.0) = 2
            thread(1, 1) = 2
            channel(4, 2) = 0
            got(1) = 7
            stay(4) = throws.ArithmeticException
            """);

        Runs.check("a third begins anew", """
            make(0, 5, 0) = 1
            swap(5, 0, -2147483648, 1000.0) = 0
            swap(4, 0, 2147483647, 0.0) = 1
            swap(3, 0, 3, 1.0) = 0
            swap(5, 0, 5, 1.0) = 1
            got(4) = -2147483648
            got(3) = 5
            got(5) = 3
            """);

        Runs.check("a late or interrupted one leaves nothing behind", """
            make(0, 5, 0) = 1
            swap(0, 0, 1, 2.0) = 0
            tick(2.0) = 1
            thread(0, 1) = 2
            swap(1, 0, 2, -1.0) = 0
            interrupt(1) = 3
            swap(2, 0, 3, 0.0) = 2
            got(2) = throws.NoSuchElementException
            """);

        Runs.check("the flag is lost, and nothing is swapped", """
            make(0, 5, 0) = 1
            swap(0, 0, 1, -1.0) = 0
            interrupt(1) = -1
            swap(1, 0, 2, 0.0) = 3
            thread(1, 1) = 3
            thread(1, 2) = 0
            thread(0, 1) = 0
            channel(0, 2) = 1
            swap(1, 0, 2, 0.0) = 1
            """);

        Runs.check("what is thrown, in its order", """
            make(0, 5, 0) = 1
            make(1, 4, 0) = 2
            make(2, 6, 2) = 3
            swap(0, 0, 1, -1.0) = 0
            swap(-1, 0, 1, 0.0) = throws.IllegalArgumentException
            swap(6, 0, 1, 0.0) = throws.IllegalArgumentException
            swap(1, -1, 1, 0.0) = throws.IllegalArgumentException
            swap(1, 8, 1, 0.0) = throws.IllegalArgumentException
            swap(1, 0, 1, -1.5) = throws.IllegalArgumentException
            swap(1, 0, 1, 1000.5) = throws.IllegalArgumentException
            swap(1, 0, 1, 1000.0000000000001) = throws.IllegalArgumentException
            swap(1, 0, 1, -1.0000000000000002) = throws.IllegalArgumentException
            swap(1, 0, 1, NaN) = throws.IllegalArgumentException
            swap(0, 3, 1, 0.0) = throws.NoSuchElementException
            swap(0, 1, 1, 0.0) = throws.IllegalStateException
            swap(0, 0, 1, 0.0) = throws.IllegalStateException
            interrupt(1) = -1
            swap(1, 1, 1, 0.0) = throws.UnsupportedOperationException
            swap(1, 2, 1, 0.0) = throws.UnsupportedOperationException
            thread(1, 2) = 1
            """);
        Runs.end();
    }
}

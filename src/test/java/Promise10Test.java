/** got: what a THREAD GOT last. */
public final class Promise10Test {
    public static void main(String[] args) {
        Runs.check("the last of all it got", """
            make(0, 1, 0) = 1
            make(1, 5, 0) = 2
            make(2, 6, 3) = 3
            got(0) = throws.NoSuchElementException
            give(1, 0, 0, 0.0, 0.0) = 1
            got(1) = throws.NoSuchElementException
            take(0, 0, 0.0) = 1
            got(0) = 0
            got(0) = 0
            swap(1, 1, -5, -1.0) = 0
            swap(0, 1, 6, -1.0) = 1
            got(0) = -5
            got(1) = 6
            arrive(1, 2, -1.0) = 0
            got(1) = 0
            arrive(0, 2, -1.0) = 0
            got(0) = 1
            arrive(2, 2, -1.0) = 1
            got(2) = throws.NoSuchElementException
            # waiting, being late and being interrupted leave it alone
            take(0, 0, 1.0) = 0
            got(0) = 1
            tick(1.0) = 1
            got(0) = 1
            interrupt(0) = 2
            take(0, 0, 1.0) = 3
            got(0) = 1
            """);

        Runs.check("numbers out of range", """
            got(-1) = throws.IllegalArgumentException
            got(6) = throws.IllegalArgumentException
            got(5) = throws.NoSuchElementException
            """);
        Runs.end();
    }
}

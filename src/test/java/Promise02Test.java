/** make: a new CHANNEL of a KIND. */
public final class Promise02Test {
    public static void main(String[] args) {
        Runs.check("all kinds and their edges", """
            make(0, 0, 1) = 1
            make(1, 0, 4) = 2
            make(2, 1, 0) = 3
            make(3, 2, 0) = 4
            make(4, 3, 0) = 5
            make(5, 4, 0) = 6
            make(6, 5, 0) = 7
            make(7, 6, 5) = 8
            channel(0, 0) = 0
            channel(1, 0) = 0
            channel(2, 0) = 1
            channel(3, 0) = 2
            channel(4, 0) = 3
            channel(5, 0) = 4
            channel(6, 0) = 5
            channel(7, 0) = 6
            channel(5, 1) = 0
            channel(5, 2) = 0
            channel(5, 3) = 0
            channel(7, 3) = 1
            channel(7, 4) = 0
            stay(2) = throws.ArithmeticException
            """);

        Runs.check("numbers out of range", """
            make(-1, 1, 0) = throws.IllegalArgumentException
            make(8, 1, 0) = throws.IllegalArgumentException
            make(0, -1, 0) = throws.IllegalArgumentException
            make(0, -1, 1) = throws.IllegalArgumentException
            make(0, 7, 0) = throws.IllegalArgumentException
            make(0, 7, 2) = throws.IllegalArgumentException
            make(0, 0, 0) = throws.IllegalArgumentException
            make(0, 0, -1) = throws.IllegalArgumentException
            make(0, 0, 5) = throws.IllegalArgumentException
            make(0, 1, 1) = throws.IllegalArgumentException
            make(0, 1, 16) = throws.IllegalArgumentException
            make(0, 2, 1) = throws.IllegalArgumentException
            make(0, 2, -1) = throws.IllegalArgumentException
            make(0, 3, 6) = throws.IllegalArgumentException
            make(0, 4, 6) = throws.IllegalArgumentException
            make(0, 5, 2) = throws.IllegalArgumentException
            make(0, 6, 1) = throws.IllegalArgumentException
            make(0, 6, 6) = throws.IllegalArgumentException
            channel(0, 0) = throws.NoSuchElementException
            make(0, 6, 2) = 1
            """);

        Runs.check("one that is there already", """
            make(3, 0, 2) = 1
            make(3, 0, 2) = throws.IllegalStateException
            make(3, 1, 0) = throws.IllegalStateException
            # a number out of range comes first
            make(3, 0, 5) = throws.IllegalArgumentException
            channel(3, 0) = 0
            make(4, 0, 2) = 2
            """);

        Runs.check("the room that a says", """
            make(0, 0, 1) = 1
            make(1, 0, 4) = 2
            give(0, 0, 1, 0.0, 0.0) = 1
            give(0, 0, 2, 0.0, 0.0) = 2
            give(0, 1, 1, 0.0, 0.0) = 1
            give(0, 1, 2, 0.0, 0.0) = 1
            give(0, 1, 3, 0.0, 0.0) = 1
            give(0, 1, 4, 0.0, 0.0) = 1
            give(0, 1, 5, 0.0, 0.0) = 2
            """);
        Runs.end();
    }
}

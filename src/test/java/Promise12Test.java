/** channel: what can be asked of a CHANNEL. */
public final class Promise12Test {
    public static void main(String[] args) {
        Runs.check("items, waiters and what is ready", """
            make(2, 0, 1) = 1
            channel(2, 0) = 0
            channel(2, 1) = 0
            channel(2, 2) = 0
            channel(2, 3) = 0
            channel(2, 4) = 0
            channel(2, 5) = -1
            channel(2, 10) = -1
            give(0, 2, 1, 0.0, 0.0) = 1
            channel(2, 1) = 1
            channel(2, 3) = 1
            give(5, 2, 1, 0.0, -1.0) = 0
            give(0, 2, 1, 0.0, -1.0) = 0
            give(4, 2, 1, 0.0, -1.0) = 0
            give(1, 2, 1, 0.0, -1.0) = 0
            give(3, 2, 1, 0.0, -1.0) = 0
            give(2, 2, 1, 0.0, -1.0) = 0
            channel(2, 1) = 1
            channel(2, 2) = 6
            channel(2, 5) = 5
            channel(2, 6) = 0
            channel(2, 7) = 4
            channel(2, 8) = 1
            channel(2, 9) = 3
            channel(2, 10) = 2
            interrupt(4) = 3
            channel(2, 2) = 5
            channel(2, 7) = 1
            channel(2, 9) = 2
            channel(2, 10) = -1
            """);

        Runs.check("delayed: ready once it is due", """
            make(0, 4, 0) = 1
            give(0, 0, 1, 2.0, 0.0) = 1
            channel(0, 0) = 4
            channel(0, 1) = 1
            channel(0, 3) = 0
            tick(1.0) = 0
            channel(0, 3) = 0
            tick(1.0) = 0
            channel(0, 3) = 1
            give(0, 0, 2, 5.0, 0.0) = 1
            channel(0, 3) = 1
            """);

        Runs.check("a barrier: whole or broken, and how often it was passed", """
            make(0, 6, 2) = 1
            make(1, 5, 0) = 2
            make(3, 3, 0) = 3
            make(4, 2, 0) = 4
            channel(0, 3) = 1
            channel(0, 4) = 0
            arrive(1, 0, -1.0) = 0
            channel(0, 2) = 1
            channel(0, 1) = 0
            channel(0, 5) = 1
            arrive(0, 0, -1.0) = 1
            channel(0, 4) = 1
            channel(0, 3) = 1
            arrive(0, 0, 0.0) = 2
            channel(0, 3) = 0
            channel(0, 4) = 1
            channel(1, 3) = 0
            channel(1, 4) = 0
            give(0, 3, 1, 1.0, 0.0) = 1
            channel(3, 3) = 1
            give(0, 4, 1, 1.0, -1.0) = 0
            channel(4, 3) = 0
            channel(4, 1) = 0
            channel(4, 2) = 1
            """);

        Runs.check("what is thrown, in its order", """
            channel(-1, 0) = throws.IllegalArgumentException
            channel(8, 0) = throws.IllegalArgumentException
            channel(0, -1) = throws.IllegalArgumentException
            channel(0, 11) = throws.IllegalArgumentException
            channel(0, 0) = throws.NoSuchElementException
            channel(0, 10) = throws.NoSuchElementException
            make(0, 1, 0) = 1
            channel(0, 10) = -1
            channel(0, 11) = throws.IllegalArgumentException
            """);
        Runs.end();
    }
}

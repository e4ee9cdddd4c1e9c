/** thread: what can be asked of a THREAD. */
public final class Promise11Test {
    public static void main(String[] args) {
        Runs.check("all four of it", """
            make(7, 0, 1) = 1
            thread(5, 0) = 0
            thread(5, 1) = -1
            thread(5, 2) = 0
            thread(5, 3) = -1
            take(5, 7, -1.0) = 0
            thread(5, 0) = 1
            thread(5, 1) = 0
            thread(5, 2) = 0
            thread(5, 3) = 7
            give(0, 7, 1, 0.0, 0.0) = 1
            thread(5, 0) = 0
            thread(5, 1) = 1
            thread(5, 3) = -1
            interrupt(5) = 1
            thread(5, 2) = 1
            thread(0, 2) = 0
            take(5, 7, 1.0) = 3
            thread(5, 1) = 3
            thread(5, 2) = 0
            take(5, 7, 0.0) = 2
            thread(5, 1) = 2
            thread(5, 3) = -1
            make(0, 6, 2) = 2
            arrive(5, 0, -1.0) = 0
            thread(5, 3) = 0
            reset(0) = 1
            thread(5, 1) = 4
            """);

        Runs.check("numbers out of range", """
            thread(-1, 0) = throws.IllegalArgumentException
            thread(6, 0) = throws.IllegalArgumentException
            thread(0, -1) = throws.IllegalArgumentException
            thread(0, 4) = throws.IllegalArgumentException
            """);
        Runs.end();
    }
}

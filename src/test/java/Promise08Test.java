/** interrupt: a FLAG for one that is RUNNING, an end of waiting for one that is BLOCKED. */
public final class Promise08Test {
    public static void main(String[] args) {
        Runs.check("running: the flag, and nothing else", """
            interrupt(0) = -1
            thread(0, 0) = 0
            thread(0, 1) = -1
            thread(0, 2) = 1
            interrupt(0) = -1
            thread(0, 2) = 1
            thread(1, 2) = 0
            make(0, 1, 0) = 1
            give(5, 0, 1, 0.0, 0.0) = 1
            interrupt(5) = 1
            take(0, 0, 0.0) = 3
            take(0, 0, 0.0) = 1
            take(0, 0, 0.0) = 2
            interrupt(0) = 2
            """);

        Runs.check("blocked: it waits no more, without a flag", """
            make(0, 0, 1) = 1
            make(1, 2, 0) = 2
            take(0, 0, 3.0) = 0
            take(1, 0, -1.0) = 0
            take(2, 0, -1.0) = 0
            interrupt(1) = 3
            thread(1, 0) = 0
            thread(1, 1) = 3
            thread(1, 2) = 0
            thread(1, 3) = -1
            channel(0, 2) = 2
            channel(0, 5) = 0
            channel(0, 6) = 2
            channel(0, 7) = -1
            interrupt(0) = 3
            tick(5.0) = 0
            thread(0, 1) = 3
            give(3, 0, 9, 0.0, 0.0) = 1
            got(2) = 9
            got(0) = throws.NoSuchElementException
            give(3, 0, 1, 0.0, 0.0) = 1
            give(3, 0, 2, 0.0, -1.0) = 0
            give(4, 0, 3, 0.0, -1.0) = 0
            interrupt(3) = 3
            take(0, 0, 0.0) = 1
            item(0, 0) = 3
            thread(4, 1) = 1
            give(3, 1, 2, 0.0, -1.0) = 0
            interrupt(3) = 3
            take(5, 1, 0.0) = 2
            """);

        Runs.check("a barrier breaks, the others go as broken", """
            make(0, 6, 5) = 1
            arrive(3, 0, -1.0) = 0
            arrive(4, 0, -1.0) = 0
            arrive(5, 0, 1.0) = 0
            interrupt(4) = 3
            thread(3, 1) = 4
            thread(4, 1) = 3
            thread(5, 1) = 4
            thread(3, 0) = 0
            thread(5, 3) = -1
            channel(0, 2) = 0
            channel(0, 3) = 0
            interrupt(3) = 4
            thread(3, 2) = 1
            """);

        Runs.check("numbers out of range", """
            interrupt(-1) = throws.IllegalArgumentException
            interrupt(6) = throws.IllegalArgumentException
            interrupt(2147483647) = throws.IllegalArgumentException
            """);
        Runs.end();
    }
}

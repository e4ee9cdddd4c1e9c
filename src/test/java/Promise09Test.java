/** tick: TIME goes on, ITEMS become due, WAITERS become LATE. */
public final class Promise09Test {
    public static void main(String[] args) {
        Runs.check("late at the end, not before", """
            make(0, 1, 0) = 1
            take(0, 0, 2.0) = 0
            take(1, 0, -1.0) = 0
            tick(1.5) = 0
            thread(0, 0) = 1
            tick(0.5) = 1
            thread(0, 0) = 0
            thread(0, 1) = 2
            thread(0, 2) = 0
            thread(1, 0) = 1
            channel(0, 2) = 1
            channel(0, 5) = 1
            tick(1000.0) = 0
            thread(1, 0) = 1
            time() = 1002.0
            """);

        Runs.check("an end is counted from the time of the call", """
            make(0, 1, 0) = 1
            tick(10.0) = 0
            take(0, 0, 1.0) = 0
            tick(0.5) = 0
            tick(0.5) = 1
            """);

        Runs.check("due items go to takers at their times", """
            make(0, 4, 0) = 1
            give(0, 0, 1, 4.0, 0.0) = 1
            give(0, 0, 2, 2.0, 0.0) = 1
            take(1, 0, 3.0) = 0
            take(2, 0, 3.5) = 0
            take(3, 0, -1.0) = 0
            tick(10.0) = 1
            got(1) = 2
            thread(1, 1) = 1
            thread(2, 1) = 2
            got(3) = 1
            stay(0) = 3.0
            time() = 10.0
            """);

        Runs.check("what is due at a waiter's end comes before the end", """
            make(0, 4, 0) = 1
            give(0, 0, 1, 2.0, 0.0) = 1
            take(1, 0, 2.0) = 0
            take(2, 0, 2.0) = 0
            tick(2.0) = 1
            got(1) = 1
            thread(1, 1) = 1
            thread(2, 1) = 2
            """);

        Runs.check("what is due at the goal is taken, what is due above is not", """
            make(0, 4, 0) = 1
            give(0, 0, 1, 1.0, 0.0) = 1
            give(0, 0, 2, 1.5, 0.0) = 1
            take(1, 0, -1.0) = 0
            take(2, 0, -1.0) = 0
            tick(1.0) = 0
            thread(1, 1) = 1
            thread(2, 1) = 0
            time() = 1.0
            """);

        Runs.check("one taker takes what several channels have due, in order of time", """
            make(3, 4, 0) = 1
            make(1, 4, 0) = 2
            give(0, 3, 31, 1.0, 0.0) = 1
            give(0, 1, 11, 1.0, 0.0) = 1
            give(0, 1, 12, 3.0, 0.0) = 1
            take(1, 1, 2.0) = 0
            take(2, 1, 2.0) = 0
            take(3, 3, 2.0) = 0
            tick(5.0) = 1
            got(1) = 11
            got(3) = 31
            thread(2, 1) = 2
            channel(1, 1) = 1
            channel(1, 3) = 1
            stay(1) = 1.0
            """);

        Runs.check("a giver's item goes in at the time when room came, not at the goal", """
            make(0, 4, 0) = 1
            give(0, 0, 1, 2.0, 0.0) = 1
            give(0, 0, 2, 20.0, 0.0) = 1
            give(0, 0, 3, 20.0, 0.0) = 1
            give(0, 0, 4, 20.0, 0.0) = 1
            give(0, 0, 5, 20.0, 0.0) = 1
            give(0, 0, 6, 20.0, 0.0) = 1
            give(0, 0, 7, 4.0, 3.0) = 0
            take(1, 0, -1.0) = 0
            take(2, 0, -1.0) = 0
            tick(10.0) = 0
            thread(0, 1) = 1
            got(1) = 1
            got(2) = 7
            stay(0) = 2.0
            """);

        Runs.check("several late at one tick", """
            make(0, 0, 1) = 1
            make(1, 2, 0) = 2
            make(2, 5, 0) = 3
            give(0, 0, 1, 0.0, 0.0) = 1
            give(0, 0, 2, 0.0, 3.0) = 0
            give(1, 0, 3, 0.0, 1.0) = 0
            give(2, 1, 4, 0.0, 2.0) = 0
            swap(3, 2, 5, 3.0) = 0
            take(4, 0, 0.0) = 1
            tick(3.0) = 3
            thread(0, 1) = 1
            thread(1, 1) = 2
            thread(2, 1) = 2
            thread(3, 1) = 2
            channel(0, 2) = 0
            channel(0, 1) = 1
            item(0, 0) = 2
            """);

        Runs.check("a barrier's waiters with the same end: the lowest thread is late, the others broken", """
            make(0, 6, 4) = 1
            arrive(3, 0, 2.0) = 0
            arrive(1, 0, 2.0) = 0
            arrive(2, 0, 2.0) = 0
            tick(2.0) = 1
            thread(1, 1) = 2
            thread(2, 1) = 4
            thread(3, 1) = 4
            channel(0, 3) = 0
            """);

        Runs.check("two barriers break at one time", """
            make(0, 6, 3) = 1
            make(1, 6, 3) = 2
            arrive(0, 0, 5.0) = 0
            arrive(1, 0, 4.0) = 0
            arrive(2, 1, 4.0) = 0
            arrive(3, 1, 4.0) = 0
            tick(9.0) = 2
            thread(0, 1) = 4
            thread(1, 1) = 2
            thread(2, 1) = 2
            thread(3, 1) = 4
            """);

        Runs.check("all six are late", """
            make(0, 2, 0) = 1
            take(0, 0, 6.0) = 0
            take(1, 0, 5.0) = 0
            take(2, 0, 4.0) = 0
            take(3, 0, 3.0) = 0
            take(4, 0, 2.0) = 0
            take(5, 0, 1.0) = 0
            tick(6.0) = 6
            channel(0, 2) = 0
            """);

        Runs.check("six takers for six items that are due at once", """
            make(0, 4, 0) = 1
            give(0, 0, 10, 2.0, 0.0) = 1
            give(0, 0, 11, 2.0, 0.0) = 1
            give(0, 0, 12, 2.0, 0.0) = 1
            give(0, 0, 13, 2.0, 0.0) = 1
            give(0, 0, 14, 2.0, 0.0) = 1
            give(0, 0, 15, 2.0, 0.0) = 1
            take(5, 0, -1.0) = 0
            take(4, 0, 2.0) = 0
            take(3, 0, -1.0) = 0
            take(2, 0, 2.0) = 0
            take(1, 0, -1.0) = 0
            take(0, 0, 2.0) = 0
            tick(2.0) = 0
            got(5) = 10
            got(4) = 11
            got(3) = 12
            got(2) = 13
            got(1) = 14
            got(0) = 15
            channel(0, 1) = 0
            channel(0, 2) = 0
            stay(0) = 2.0
            """);

        Runs.check("an end that is the time itself: late at a tick of nothing", """
            make(0, 1, 0) = 1
            tick(1000.0) = 0
            take(0, 0, 1.0E-300) = 0
            thread(0, 0) = 1
            tick(0.0) = 1
            thread(0, 1) = 2
            time() = 1000.0
            """);

        Runs.check("numbers out of range", """
            tick(-0.5) = throws.IllegalArgumentException
            tick(1000.5) = throws.IllegalArgumentException
            tick(1000.0000000000001) = throws.IllegalArgumentException
            tick(-4.9E-324) = throws.IllegalArgumentException
            tick(NaN) = throws.IllegalArgumentException
            tick(Infinity) = throws.IllegalArgumentException
            tick(-Infinity) = throws.IllegalArgumentException
            time() = 0.0
            tick(-0.0) = 0
            tick(0.0) = 0
            tick(1000.0) = 0
            time() = 1000.0
            """);
        Runs.end();
    }
}

/** got, at the edges. */
public final class Promise10EdgesTest {
    public static void main(String[] args) {
        Cross.check("got: thread 0 .. 5, nothing: NoSuchElementException",
            "make(0, 1, 0) = 1; give(0, 0, 1, 0.0, 0.0) = 1; take(2, 0, 0.0) = 1; take(1, 0, 3.0) = 0", "got",
            "2 NSE 0 1 5 IAE -1 6 -2147483648 2147483647");
        nothing();
        valuesAtTheEdges();
        last();
        whatLeavesItAlone();
        Runs.end();
    }

    private static void nothing() {
        Runs.check("nothing: NoSuchElementException, after all that gives it nothing", """
            make(0, 1, 0) = 1; make(1, 2, 0) = 2; make(2, 5, 0) = 3; make(3, 6, 2) = 4
            give(0, 0, 1, 0.0, 0.0) = 1; got(0) = throws.NoSuchElementException
            take(1, 1, 0.0) = 2; got(1) = throws.NoSuchElementException
            take(1, 1, 1.0) = 0; got(1) = throws.NoSuchElementException
            tick(1.0) = 1; got(1) = throws.NoSuchElementException
            swap(2, 2, 1, -1.0) = 0; got(2) = throws.NoSuchElementException
            interrupt(2) = 3; got(2) = throws.NoSuchElementException
            interrupt(3) = -1; take(3, 0, 0.0) = 3; got(3) = throws.NoSuchElementException
            # the one that lets all pass gets nothing
            arrive(4, 3, -1.0) = 0; arrive(5, 3, -1.0) = 1; got(5) = throws.NoSuchElementException
            got(4) = 0
            """);
        Runs.check("nothing: a GIVER whose ITEM was taken got nothing", """
            make(0, 2, 0) = 1; make(1, 0, 1) = 2
            give(0, 0, 1, 0.0, -1.0) = 0; take(1, 0, 0.0) = 1; got(0) = throws.NoSuchElementException
            give(2, 1, 1, 0.0, 0.0) = 1; give(2, 1, 2, 0.0, -1.0) = 0; take(1, 1, 0.0) = 1
            got(2) = throws.NoSuchElementException
            """);
    }

    private static void valuesAtTheEdges() {
        Runs.check("What it GOT last: 0 is something, and so are the smallest and the largest", """
            make(0, 1, 0) = 1
            give(0, 0, 0, 0.0, 0.0) = 1; give(0, 0, -1, 0.0, 0.0) = 1
            give(0, 0, -2147483648, 0.0, 0.0) = 1; give(0, 0, 2147483647, 0.0, 0.0) = 1
            take(5, 0, 0.0) = 1; got(5) = 0
            take(5, 0, 0.0) = 1; got(5) = -1
            take(5, 0, 0.0) = 1; got(5) = -2147483648
            take(5, 0, 0.0) = 1; got(5) = 2147483647
            """);
    }

    private static void last() {
        Runs.check("What it GOT last: by take, while it waited, by swap, by arrive", """
            make(0, 1, 0) = 1; make(1, 5, 0) = 2; make(2, 6, 3) = 3; make(3, 2, 0) = 4; make(4, 4, 0) = 5
            give(1, 0, 10, 0.0, 0.0) = 1; take(0, 0, 0.0) = 1; got(0) = 10
            take(0, 0, -1.0) = 0; got(0) = 10; give(1, 0, 11, 0.0, 0.0) = 1; got(0) = 11
            take(0, 3, -1.0) = 0; got(0) = 11; give(1, 3, 12, 0.0, 0.0) = 1; got(0) = 12
            give(1, 3, 13, 0.0, -1.0) = 0; take(0, 3, 0.0) = 1; got(0) = 13
            swap(0, 1, 99, -1.0) = 0; got(0) = 13; swap(1, 1, 14, 0.0) = 1; got(0) = 14; got(1) = 99
            swap(1, 1, 15, -1.0) = 0; swap(0, 1, 98, 0.0) = 1; got(0) = 15; got(1) = 98
            give(1, 4, 16, 1.0, 0.0) = 1; take(0, 4, 1.0) = 0; tick(1.0) = 0; got(0) = 16
            arrive(2, 2, -1.0) = 0; got(2) = 0; arrive(0, 2, -1.0) = 0; got(0) = 1
            """);
    }

    private static void whatLeavesItAlone() {
        Runs.check("What it GOT last: asked twice, and after giving, being LATE, INTERRUPTED, BROKEN", """
            make(0, 1, 0) = 1; make(1, 6, 3) = 2; make(2, 2, 0) = 3
            give(0, 0, 7, 0.0, 0.0) = 1; take(0, 0, 0.0) = 1; got(0) = 7; got(0) = 7
            give(0, 0, 8, 0.0, 0.0) = 1; got(0) = 7
            give(0, 2, 8, 0.0, 0.0) = 2; got(0) = 7
            take(0, 2, 1.0) = 0; tick(1.0) = 1; got(0) = 7
            take(0, 2, -1.0) = 0; interrupt(0) = 3; got(0) = 7
            interrupt(0) = 3; take(0, 0, 0.0) = 3; got(0) = 7
            arrive(1, 1, -1.0) = 0; arrive(0, 1, -1.0) = 0; got(0) = 1
            reset(1) = 2; got(0) = 1; got(1) = 0
            """);
    }
}

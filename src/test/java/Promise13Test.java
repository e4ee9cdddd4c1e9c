/** item: the value of an ITEM. */
public final class Promise13Test {
    public static void main(String[] args) {
        Runs.check("from 0, and none behind the last", """
            make(0, 1, 0) = 1
            item(0, 0) = throws.IndexOutOfBoundsException
            give(0, 0, 11, 0.0, 0.0) = 1
            give(0, 0, -12, 0.0, 0.0) = 1
            item(0, 0) = 11
            item(0, 1) = -12
            item(0, 2) = throws.IndexOutOfBoundsException
            item(0, -1) = throws.IndexOutOfBoundsException
            item(0, 2147483647) = throws.IndexOutOfBoundsException
            item(0, -2147483648) = throws.IndexOutOfBoundsException
            take(0, 0, 0.0) = 1
            item(0, 0) = -12
            item(0, 1) = throws.IndexOutOfBoundsException
            """);

        Runs.check("what waits is not in", """
            make(0, 0, 1) = 1
            make(1, 2, 0) = 2
            make(2, 5, 0) = 3
            make(3, 6, 2) = 4
            give(0, 0, 1, 0.0, 0.0) = 1
            give(0, 0, 2, 0.0, -1.0) = 0
            item(0, 1) = throws.IndexOutOfBoundsException
            give(1, 1, 2, 0.0, -1.0) = 0
            item(1, 0) = throws.IndexOutOfBoundsException
            swap(2, 2, 2, -1.0) = 0
            item(2, 0) = throws.IndexOutOfBoundsException
            arrive(3, 3, -1.0) = 0
            item(3, 0) = throws.IndexOutOfBoundsException
            """);

        Runs.check("by rank and by due time", """
            make(0, 3, 0) = 1
            make(1, 4, 0) = 2
            give(0, 0, 1, 1.0, 0.0) = 1
            give(0, 0, 2, 2.0, 0.0) = 1
            give(0, 0, 3, 1.0, 0.0) = 1
            item(0, 0) = 2
            item(0, 1) = 1
            item(0, 2) = 3
            give(0, 1, 1, 1.0, 0.0) = 1
            give(0, 1, 2, 2.0, 0.0) = 1
            tick(1.0) = 0
            give(0, 1, 3, 0.5, 0.0) = 1
            give(0, 1, 4, 0.0, 0.0) = 1
            give(0, 1, 5, 1.0, 0.0) = 1
            item(1, 0) = 1
            item(1, 1) = 4
            item(1, 2) = 3
            item(1, 3) = 2
            item(1, 4) = 5
            """);

        Runs.check("what is thrown, in its order", """
            item(-1, 0) = throws.IllegalArgumentException
            item(8, 0) = throws.IllegalArgumentException
            item(0, 0) = throws.NoSuchElementException
            item(0, -1) = throws.NoSuchElementException
            """);
        Runs.end();
    }
}

/** stay: the mean of how long ITEMS were IN. */
public final class Promise14Test {
    public static void main(String[] args) {
        Runs.check("the sum by how often", """
            make(0, 1, 0) = 1
            stay(0) = throws.ArithmeticException
            give(0, 0, 1, 0.0, 0.0) = 1
            tick(1.0) = 0
            stay(0) = throws.ArithmeticException
            give(0, 0, 2, 0.0, 0.0) = 1
            tick(2.5) = 0
            take(0, 0, 0.0) = 1
            stay(0) = 3.5
            take(0, 0, 0.0) = 1
            stay(0) = 3.0
            take(1, 0, -1.0) = 0
            tick(4.0) = 0
            give(0, 0, 3, 0.0, 0.0) = 1
            stay(0) = 2.0
            """);

        Runs.check("a giver's wait does not count", """
            make(0, 0, 1) = 1
            give(0, 0, 1, 0.0, 0.0) = 1
            give(1, 0, 2, 0.0, -1.0) = 0
            tick(4.0) = 0
            take(2, 0, 0.0) = 1
            stay(0) = 4.0
            tick(1.0) = 0
            take(2, 0, 0.0) = 1
            stay(0) = 2.5
            """);

        Runs.check("direct: 0.0, however long they waited", """
            make(0, 2, 0) = 1
            make(1, 5, 0) = 2
            make(2, 6, 2) = 3
            stay(0) = throws.ArithmeticException
            give(0, 0, 1, 0.0, -1.0) = 0
            tick(3.0) = 0
            take(1, 0, 0.0) = 1
            stay(0) = 0.0
            take(1, 0, -1.0) = 0
            tick(3.0) = 0
            give(0, 0, 1, 0.0, 0.0) = 1
            stay(0) = 0.0
            swap(0, 1, 1, -1.0) = 0
            swap(1, 1, 1, -1.0) = 1
            stay(1) = throws.ArithmeticException
            arrive(0, 2, -1.0) = 0
            arrive(1, 2, -1.0) = 1
            stay(2) = throws.ArithmeticException
            """);

        Runs.check("what is thrown, in its order", """
            stay(-1) = throws.IllegalArgumentException
            stay(8) = throws.IllegalArgumentException
            stay(7) = throws.NoSuchElementException
            make(7, 3, 0) = 1
            stay(7) = throws.ArithmeticException
            """);
        Runs.end();
    }
}

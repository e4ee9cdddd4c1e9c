/** reset: a BARRIER is whole again. */
public final class Promise07Test {
    public static void main(String[] args) {
        Runs.check("its waiters go as broken", """
            make(0, 6, 4) = 1
            make(1, 6, 2) = 2
            reset(0) = 0
            channel(0, 3) = 1
            arrive(0, 0, -1.0) = 0
            arrive(1, 0, 1.0) = 0
            arrive(2, 0, -1.0) = 0
            arrive(3, 1, -1.0) = 0
            reset(0) = 3
            thread(0, 0) = 0
            thread(0, 1) = 4
            thread(1, 1) = 4
            thread(2, 1) = 4
            thread(3, 1) = 0
            channel(0, 2) = 0
            channel(0, 3) = 1
            channel(1, 2) = 1
            tick(2.0) = 0
            thread(1, 1) = 4
            """);

        Runs.check("a broken one is whole again and keeps how often it was passed", """
            make(0, 6, 2) = 1
            arrive(0, 0, -1.0) = 0
            arrive(1, 0, -1.0) = 1
            arrive(0, 0, 0.0) = 2
            channel(0, 3) = 0
            reset(0) = 0
            channel(0, 3) = 1
            channel(0, 4) = 1
            thread(0, 1) = 2
            arrive(0, 0, -1.0) = 0
            arrive(1, 0, -1.0) = 1
            channel(0, 4) = 2
            """);

        Runs.check("what is thrown, in its order", """
            make(0, 0, 1) = 1
            make(1, 1, 0) = 2
            make(2, 2, 0) = 3
            make(3, 3, 0) = 4
            make(4, 4, 0) = 5
            make(5, 5, 0) = 6
            reset(-1) = throws.IllegalArgumentException
            reset(8) = throws.IllegalArgumentException
            reset(6) = throws.NoSuchElementException
            swap(0, 5, 1, -1.0) = 0
            reset(0) = throws.UnsupportedOperationException
            reset(1) = throws.UnsupportedOperationException
            reset(2) = throws.UnsupportedOperationException
            reset(3) = throws.UnsupportedOperationException
            reset(4) = throws.UnsupportedOperationException
            reset(5) = throws.UnsupportedOperationException
            thread(0, 0) = 1
            """);
        Runs.end();
    }
}

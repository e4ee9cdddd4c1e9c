/** item, at the edges. */
public final class Promise13EdgesTest {
    public static void main(String[] args) {
        Cross.check("item: channel 0 .. 7, one that is not there", "make(0, 1, 0) = 1; make(7, 1, 0) = 2\n"
            + "give(0, 0, 1, 0.0, 0.0) = 1; give(0, 7, 1, 0.0, 0.0) = 1", "item",
            "0 7 NSE 1 6 IAE -1 8 -2147483648 2147483647", "0");
        Runs.check("item: a number out of range and a CHANNEL that is not there come before what i is", """
            make(0, 1, 0) = 1
            item(8, -1) = throws.IllegalArgumentException
            item(-1, 0) = throws.IllegalArgumentException
            item(1, -1) = throws.NoSuchElementException
            item(1, 2147483647) = throws.NoSuchElementException
            """);
        noneToAsManyAsThereIsRoom();
        noItemsHere();
        values();
        orders();
        Runs.end();
    }

    private static void noneToAsManyAsThereIsRoom() {
        int[][] kinds = {{0, 1, 1}, {0, 2, 2}, {0, 3, 3}, {0, 4, 4}, {1, 0, 16}, {3, 0, 6}, {4, 0, 6}};
        for (int[] k : kinds) {
            StringBuilder run = new StringBuilder("make(7, " + k[0] + ", " + k[1] + ") = 1\n");
            for (int count = 0; count <= k[2]; count++) {
                if (count > 0) {
                    run.append("give(0, 7, " + count + ", 0.0, 0.0) = 1; item(7, 0) = 1\n");
                    run.append("item(7, " + (count - 1) + ") = " + count + "\n");
                }
                run.append("item(7, -1) = throws.IndexOutOfBoundsException\n");
                run.append("item(7, " + count + ") = throws.IndexOutOfBoundsException\n");
            }
            // One that waits with its ITEM is not IN.
            run.append("give(0, 7, 99, 0.0, -1.0) = 0; item(7, " + k[2] + ") = throws.IndexOutOfBoundsException\n");
            run.append("item(7, 2147483647) = throws.IndexOutOfBoundsException\n");
            run.append("item(7, -2147483648) = throws.IndexOutOfBoundsException\n");
            run.append("take(1, 7, 0.0) = 1; item(7, " + (k[2] - 1) + ") = 99\n");
            Runs.check("ITEM i, from 0; there is none: KIND " + k[0] + " with ROOM " + k[2], run.toString());
        }
    }

    private static void noItemsHere() {
        Runs.check("there is none: DIRECT, EXCHANGE and BARRIER, with WAITERS and without", """
            make(0, 2, 0) = 1; make(1, 5, 0) = 2; make(2, 6, 2) = 3
            item(0, 0) = throws.IndexOutOfBoundsException
            item(1, 0) = throws.IndexOutOfBoundsException
            item(2, 0) = throws.IndexOutOfBoundsException
            give(0, 0, 1, 0.0, -1.0) = 0; swap(1, 1, 1, -1.0) = 0; arrive(2, 2, -1.0) = 0
            item(0, 0) = throws.IndexOutOfBoundsException
            item(1, 0) = throws.IndexOutOfBoundsException
            item(2, 0) = throws.IndexOutOfBoundsException
            """);
    }

    private static void values() {
        Runs.check("The value of ITEM i: the smallest, the largest, 0 and -1", """
            make(0, 0, 4) = 1
            give(0, 0, -2147483648, 0.0, 0.0) = 1; give(0, 0, 2147483647, 0.0, 0.0) = 1
            give(0, 0, 0, 0.0, 0.0) = 1; give(0, 0, -1, 0.0, 0.0) = 1
            item(0, 0) = -2147483648; item(0, 1) = 2147483647; item(0, 2) = 0; item(0, 3) = -1
            # asking takes nothing away
            item(0, 0) = -2147483648; channel(0, 1) = 4
            """);
    }

    private static void orders() {
        Runs.check("The value of ITEM i: RANKED and DELAYED, with the same RANK and the same DUE time", """
            make(0, 3, 0) = 1; make(1, 4, 0) = 2
            give(0, 0, 1, 2.0, 0.0) = 1; give(0, 0, 2, 2.0, 0.0) = 1; give(0, 0, 3, 3.0, 0.0) = 1; give(0, 0, 4, 1.0, 0.0) = 1
            give(0, 0, 5, 2.0, 0.0) = 1; give(0, 0, 6, 3.0, 0.0) = 1
            item(0, 0) = 3; item(0, 1) = 6; item(0, 2) = 1; item(0, 3) = 2; item(0, 4) = 5; item(0, 5) = 4
            give(0, 1, 1, 2.0, 0.0) = 1; give(0, 1, 2, 2.0, 0.0) = 1; give(0, 1, 3, 3.0, 0.0) = 1; give(0, 1, 4, 1.0, 0.0) = 1
            give(0, 1, 5, 2.0, 0.0) = 1; give(0, 1, 6, 3.0, 0.0) = 1
            item(1, 0) = 4; item(1, 1) = 1; item(1, 2) = 2; item(1, 3) = 5; item(1, 4) = 3; item(1, 5) = 6
            take(1, 0, 0.0) = 1; item(0, 0) = 6; item(0, 4) = 4; item(0, 5) = throws.IndexOutOfBoundsException
            """);
    }
}

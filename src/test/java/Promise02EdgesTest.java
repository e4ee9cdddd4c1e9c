/** make, at the edges. */
public final class Promise02EdgesTest {
    private static final String CHANNELS = "0 7 ISE 3 IAE -1 8 -2147483648 2147483647";
    private static final String BEFORE = "make(3, 1, 0) = 1; give(0, 3, 5, 0.0, 0.0) = 1";

    public static void main(String[] args) {
        numbers();
        howManyAreThere();
        thereAlready();
        thereEmpty();
        roomOfBuffers();
        roomOfOthers();
        parties();
        Runs.end();
    }

    private static void numbers() {
        Cross.check("a: ROOM for 0, 1 .. 4", BEFORE, "make", CHANNELS, "0", "1 4 IAE 0 5 -1 -2147483648 2147483647");
        Cross.check("a: PARTIES for 6, 2 .. 5", BEFORE, "make", CHANNELS, "6", "2 5 IAE 1 6 0 -2147483648 2147483647");
        Cross.check("a: 0 for others", BEFORE, "make", CHANNELS, "1 2 3 4 5", "0 IAE -1 1 2 4 5 6 16 -2147483648 2147483647");
        Cross.check("kind 0 .. 6", BEFORE, "make", CHANNELS, "IAE -1 7 -2147483648 2147483647", "0 1 2 4 5");
    }

    private static void howManyAreThere() {
        Runs.check("Answers how many are: 1 to 8, those that are refused do not count", """
            make(7, 0, 4) = 1
            make(7, 0, 4) = throws.IllegalStateException
            make(0, 6, 2) = 2
            make(8, 1, 0) = throws.IllegalArgumentException
            make(3, 1, 0) = 3
            make(1, 1, 1) = throws.IllegalArgumentException
            make(1, 1, 0) = 4
            make(6, 1, 0) = 5
            make(2, 1, 0) = 6
            make(5, 1, 0) = 7
            make(5, 1, 0) = throws.IllegalStateException
            make(4, 1, 0) = 8
            make(4, 1, 0) = throws.IllegalStateException
            """);
    }

    private static void thereAlready() {
        for (int kind = 0; kind < 7; kind++) {
            String size = kind == 0 ? "1" : kind == 6 ? "2" : "0";
            Runs.check("It is there: IllegalStateException, and it stays of KIND " + kind, """
                make(2, K, A) = 1
                make(2, 0, 1) = throws.IllegalStateException
                make(2, 0, 4) = throws.IllegalStateException
                make(2, 1, 0) = throws.IllegalStateException
                make(2, 2, 0) = throws.IllegalStateException
                make(2, 3, 0) = throws.IllegalStateException
                make(2, 4, 0) = throws.IllegalStateException
                make(2, 5, 0) = throws.IllegalStateException
                make(2, 6, 2) = throws.IllegalStateException
                make(2, 6, 5) = throws.IllegalStateException
                channel(2, 0) = K
                """.replace("K", "" + kind).replace("A)", size + ")"));
        }
        Runs.check("It is there: it keeps its ITEMS, its WAITERS and its ROOM", """
            make(0, 0, 1) = 1
            give(0, 0, 5, 0.0, 0.0) = 1
            give(1, 0, 6, 0.0, -1.0) = 0
            make(0, 0, 4) = throws.IllegalStateException
            item(0, 0) = 5
            channel(0, 2) = 1
            give(2, 0, 7, 0.0, 0.0) = 2
            """);
        Runs.check("It is there: it keeps its PARTIES, and stays BROKEN", """
            make(0, 6, 2) = 1
            make(0, 6, 3) = throws.IllegalStateException
            arrive(0, 0, -1.0) = 0
            arrive(1, 0, -1.0) = 1
            arrive(1, 0, 0.0) = 2
            make(0, 6, 2) = throws.IllegalStateException
            channel(0, 3) = 0
            channel(0, 4) = 1
            """);
    }

    private static void thereEmpty() {
        for (int kind = 0; kind < 7; kind++) {
            String size = kind == 0 ? "4" : kind == 6 ? "5" : "0";
            Runs.check("It is there, empty: KIND " + kind, """
                make(2, K, A) = 1
                channel(2, 0) = K
                channel(2, 1) = 0
                channel(2, 2) = 0
                channel(2, 3) = W
                channel(2, 4) = 0
                channel(2, 5) = -1
                item(2, 0) = throws.IndexOutOfBoundsException
                stay(2) = throws.ArithmeticException
                """.replace("K", "" + kind).replace("A)", size + ")").replace("W", kind == 6 ? "1" : "0"));
        }
    }

    private static void roomOfBuffers() {
        for (int room = 1; room <= 4; room++) {
            Runs.check("BUFFER with ROOM for " + room, "make(0, 0, " + room + ") = 1\n" + filling(room));
        }
    }

    private static void roomOfOthers() {
        Runs.check("LINKED, ROOM 16", "make(0, 1, 0) = 1\n" + filling(16));
        Runs.check("DIRECT, no ROOM", "make(0, 2, 0) = 1\n" + filling(0));
        Runs.check("RANKED, ROOM 6", "make(0, 3, 0) = 1\n" + filling(6));
        Runs.check("DELAYED, ROOM 6", "make(0, 4, 0) = 1\n" + filling(6));
    }

    private static String filling(int room) {
        StringBuilder run = new StringBuilder();
        for (int i = 1; i <= room; i++) {
            run.append("give(0, 0, 1, 0.0, 0.0) = 1; channel(0, 1) = ").append(i).append('\n');
        }
        return run.append("give(0, 0, 1, 0.0, 0.0) = 2; channel(0, 1) = ").append(room).append('\n').toString();
    }

    private static void parties() {
        for (int parties = 2; parties <= 5; parties++) {
            StringBuilder run = new StringBuilder("make(0, 6, " + parties + ") = 1\n");
            for (int t = 0; t < parties - 1; t++) {
                run.append("arrive(").append(t).append(", 0, -1.0) = 0\n");
            }
            run.append("channel(0, 2) = ").append(parties - 1).append("; channel(0, 4) = 0\n");
            run.append("arrive(5, 0, -1.0) = 1; channel(0, 2) = 0; channel(0, 4) = 1\n");
            Runs.check("BARRIER of " + parties + " PARTIES", run.toString());
        }
    }
}

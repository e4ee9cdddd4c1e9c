/** interrupt, at the edges. */
public final class Promise08EdgesTest {
    public static void main(String[] args) {
        Cross.check("interrupt: thread 0 .. 5", "make(0, 1, 0) = 1; take(1, 0, 3.0) = 0; interrupt(2) = -1", "interrupt",
            "0 1 2 5 IAE -1 6 -2147483648 2147483647");
        everyOutcome();
        flagTwice();
        blockedAtEveryKind();
        firstMiddleAndLast();
        barrier();
        itemOfAGiver();
        Runs.end();
    }

    private static void everyOutcome() {
        Runs.check("RUNNING: its FLAG is set, Answers its OUTCOME, whichever it is", """
            make(0, 1, 0) = 1; make(1, 6, 2) = 2
            interrupt(0) = -1; thread(0, 2) = 1; thread(0, 1) = -1; thread(0, 0) = 0
            give(1, 0, 1, 0.0, 0.0) = 1; interrupt(1) = 1; thread(1, 2) = 1; thread(1, 1) = 1
            take(2, 0, 0.0) = 1; take(2, 0, 0.0) = 2; interrupt(2) = 2; thread(2, 2) = 1; thread(2, 1) = 2
            interrupt(3) = -1; take(3, 0, 0.0) = 3; interrupt(3) = 3; thread(3, 2) = 1; thread(3, 1) = 3
            arrive(4, 1, -1.0) = 0; reset(1) = 1; interrupt(4) = 4; thread(4, 2) = 1; thread(4, 1) = 4
            # of one only
            thread(5, 2) = 0
            """);
    }

    private static void flagTwice() {
        Runs.check("RUNNING: a FLAG that is set stays set, and is lost at once", """
            make(0, 1, 0) = 1
            interrupt(5) = -1; interrupt(5) = -1; interrupt(5) = -1
            thread(5, 2) = 1
            give(5, 0, 1, 0.0, 0.0) = 3; thread(5, 2) = 0
            give(5, 0, 1, 0.0, 0.0) = 1
            """);
    }

    private static void blockedAtEveryKind() {
        String[][] waits = {
            {"make(0, 0, 1) = 1; give(0, 0, 1, 0.0, 0.0) = 1", "give(5, 0, 2, 0.0, 3.0) = 0"},
            {"make(0, 0, 1) = 1", "take(5, 0, 3.0) = 0"},
            {"make(0, 1, 0) = 1", "take(5, 0, 3.0) = 0"},
            {"make(0, 2, 0) = 1", "give(5, 0, 2, 0.0, 3.0) = 0"},
            {"make(0, 2, 0) = 1", "take(5, 0, -1.0) = 0"},
            {"make(0, 3, 0) = 1", "take(5, 0, 3.0) = 0"},
            {"make(0, 4, 0) = 1; give(0, 0, 1, 2.0, 0.0) = 1", "take(5, 0, 3.0) = 0"},
            {"make(0, 5, 0) = 1", "swap(5, 0, 2, 3.0) = 0"},
            {"make(0, 6, 2) = 1", "arrive(5, 0, 3.0) = 0"},
        };
        for (String[] wait : waits) {
            Runs.check("Else it waits no more, by INTERRUPTED: " + wait[1], wait[0] + "\n" + wait[1] + "\n" + """
                thread(5, 0) = 1; thread(5, 1) = 0
                interrupt(5) = 3
                thread(5, 0) = 0; thread(5, 1) = 3; thread(5, 2) = 0; thread(5, 3) = -1
                channel(0, 2) = 0; channel(0, 5) = -1
                # no END is left
                tick(9.0) = 0; thread(5, 1) = 3
                # it is RUNNING now, so the next one sets the FLAG
                interrupt(5) = 3; thread(5, 2) = 1
                """);
        }
    }

    private static void firstMiddleAndLast() {
        for (int who = 1; who <= 3; who++) {
            String left = who == 1 ? "23" : who == 2 ? "13" : "12";
            Runs.check("Else it waits no more: the others stay in their order, " + who + " goes", """
                make(0, 2, 0) = 1
                take(1, 0, -1.0) = 0; take(2, 0, -1.0) = 0; take(3, 0, -1.0) = 0
                interrupt(W) = 3
                channel(0, 2) = 2; channel(0, 5) = F; channel(0, 6) = S; channel(0, 7) = -1
                give(0, 0, 8, 0.0, 0.0) = 1; got(F) = 8
                give(0, 0, 9, 0.0, 0.0) = 1; got(S) = 9
                give(0, 0, 9, 0.0, 0.0) = 2
                got(W) = throws.NoSuchElementException
                """.replace("W)", who + ")").replace("= F", "= " + left.charAt(0)).replace("(F)", "(" + left.charAt(0) + ")")
                .replace("= S", "= " + left.charAt(1)).replace("(S)", "(" + left.charAt(1) + ")"));
        }
    }

    private static void barrier() {
        Runs.check("of a BARRIER: it is BROKEN, whoever of its WAITERS it is", """
            make(0, 6, 5) = 1; make(1, 6, 5) = 2; make(2, 6, 2) = 3
            arrive(0, 0, -1.0) = 0; arrive(1, 0, -1.0) = 0; arrive(2, 0, -1.0) = 0; arrive(3, 0, -1.0) = 0
            arrive(5, 2, -1.0) = 0
            interrupt(3) = 3
            thread(0, 1) = 4; thread(1, 1) = 4; thread(2, 1) = 4; thread(3, 1) = 3
            channel(0, 3) = 0; channel(0, 2) = 0
            arrive(0, 1, -1.0) = 0; arrive(1, 1, -1.0) = 0; arrive(2, 1, -1.0) = 0
            interrupt(0) = 3
            thread(0, 1) = 3; thread(1, 1) = 4; thread(2, 1) = 4; thread(1, 0) = 0; thread(2, 2) = 0
            channel(1, 3) = 0
            # at another BARRIER nothing happens
            thread(5, 1) = 0; channel(2, 3) = 1
            # RUNNING: a BARRIER is not BROKEN by its FLAG alone
            interrupt(4) = -1; channel(2, 3) = 1
            """);
    }

    private static void itemOfAGiver() {
        Runs.check("Else it waits no more: its ITEM is not IN, the next GIVER's is", """
            make(0, 0, 1) = 1
            give(0, 0, 1, 0.0, 0.0) = 1
            give(1, 0, 2, 0.0, -1.0) = 0; give(2, 0, 3, 0.0, -1.0) = 0
            interrupt(1) = 3
            channel(0, 1) = 1; item(0, 0) = 1
            take(5, 0, 0.0) = 1; item(0, 0) = 3; thread(2, 1) = 1; thread(1, 1) = 3
            """);
    }
}

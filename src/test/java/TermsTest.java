/**
 * The document's "Terms", from the first sentence to the last: a run for each that an answer can show. None shows
 * SERVING's rule for DIRECT by itself: whoever comes there takes from, or gives to, the one that waits, so that a
 * GIVER and a TAKER never wait together.
 */
public final class TermsTest {
    private static final String[] KIND_AND_A = {"0, 1", "1, 0", "2, 0", "3, 0", "4, 0", "5, 0", "6, 2"};

    public static void main(String[] args) {
        threads();
        outcomes();
        got();
        time();
        channels();
        room();
        barriers();
        itemHas();
        orderOfItems();
        ready();
        waiters();
        servingTakers();
        servingGivers();
        servingAgainAndAgain();
        servingTheFirstThatCanBe();
        whoWasServed();
        toTake();
        toWaitForNothing();
        toWait();
        endOfAWait();
        lateOrInterrupted();
        lateOrInterruptedAtABarrier();
        whatIsThrown();
        nothingChanges();
        Runs.end();
    }

    private static void threads() {
        for (int t = 0; t < 6; t++) {
            Runs.check("THREADS 0 .. 5 are RUNNING (at first) or BLOCKED; each has a FLAG (not set at first): " + t, """
                thread(T, 0) = 0; thread(T, 2) = 0
                make(0, 1, 0) = 1
                take(T, 0, -1.0) = 0; thread(T, 0) = 1
                interrupt(T) = 3; thread(T, 0) = 0; thread(T, 2) = 0
                interrupt(T) = 3; thread(T, 2) = 1
                """.replace("(T", "(" + t));
        }
        Runs.check("THREADS 0 .. 5: neither below nor above", """
            thread(-1, 0) = throws.IllegalArgumentException
            thread(6, 0) = throws.IllegalArgumentException
            interrupt(-1) = throws.IllegalArgumentException
            interrupt(6) = throws.IllegalArgumentException
            """);
    }

    private static void outcomes() {
        Runs.check("an OUTCOME: -1 at first; 0 while it is BLOCKED, then 1 DONE, 2 LATE, 3 INTERRUPTED or 4 BROKEN", """
            make(0, 2, 0) = 1; make(1, 6, 2) = 2
            thread(0, 1) = -1
            take(0, 0, -1.0) = 0; thread(0, 1) = 0; give(1, 0, 9, 0.0, 0.0) = 1; thread(0, 1) = 1
            take(0, 0, 1.0) = 0; thread(0, 1) = 0; tick(1.0) = 1; thread(0, 1) = 2
            take(0, 0, -1.0) = 0; thread(0, 1) = 0; interrupt(0) = 3; thread(0, 1) = 3
            arrive(0, 1, -1.0) = 0; thread(0, 1) = 0; reset(1) = 1; thread(0, 1) = 4
            """);
    }

    private static void got() {
        Runs.check("and what it GOT, an int, or nothing (at first)", """
            make(0, 0, 2) = 1
            got(0) = throws.NoSuchElementException
            give(1, 0, 2147483647, 0.0, 0.0) = 1; give(1, 0, -2147483648, 0.0, 0.0) = 1
            take(0, 0, 0.0) = 1; got(0) = 2147483647
            take(0, 0, 0.0) = 1; got(0) = -2147483648
            got(1) = throws.NoSuchElementException
            """);
    }

    private static void time() {
        Runs.check("TIME is a double, 0.0 at first", """
            time() = 0.0
            tick(0.1) = 0; tick(0.2) = 0
            time() = 0.30000000000000004
            """);
    }

    private static void channels() {
        for (int c = 0; c < 8; c++) {
            Runs.check("CHANNELS 0 .. 7 are there or not (not at first): " + c, """
                channel(C, 0) = throws.NoSuchElementException
                make(C, 1, 0) = 1
                channel(C, 0) = 1
                """.replace("(C", "(" + c));
        }
        for (int kind = 0; kind < 7; kind++) {
            Runs.check("CHANNELS by KIND: " + kind, "make(3, " + KIND_AND_A[kind] + ") = 1; channel(3, 0) = " + kind);
        }
        Runs.check("CHANNELS 0 .. 7, KINDS 0 .. 6: neither below nor above", """
            make(-1, 1, 0) = throws.IllegalArgumentException
            make(8, 1, 0) = throws.IllegalArgumentException
            make(0, -1, 0) = throws.IllegalArgumentException
            make(0, 7, 0) = throws.IllegalArgumentException
            """);
    }

    private static void room() {
        for (int room = 1; room <= 4; room++) {
            hasRoom("0 BUFFER with ROOM for 1 .. 4 ITEMS: " + room, "0, " + room, room);
        }
        Runs.check("0 BUFFER with ROOM for 1 .. 4 ITEMS: neither below nor above", """
            make(0, 0, 0) = throws.IllegalArgumentException
            make(0, 0, 5) = throws.IllegalArgumentException
            """);
        hasRoom("1 LINKED, ROOM 16", "1, 0", 16);
        hasRoom("2 DIRECT, no ROOM", "2, 0", 0);
        Runs.check("2 DIRECT, no ROOM: a GIVER that waits on leaves its ITEM with itself", """
            make(0, 2, 0) = 1
            give(0, 0, 5, 0.0, -1.0) = 0; give(1, 0, 6, 0.0, -1.0) = 0; give(2, 0, 7, 0.0, -1.0) = 0
            take(5, 0, 0.0) = 1; got(5) = 5
            channel(0, 1) = 0; channel(0, 2) = 2; thread(1, 1) = 0
            interrupt(1) = 3; channel(0, 1) = 0; channel(0, 2) = 1; thread(2, 1) = 0
            """);
        hasRoom("3 RANKED, ROOM 6", "3, 0", 6);
        hasRoom("4 DELAYED, ROOM 6", "4, 0", 6);
    }

    private static void hasRoom(String title, String kindAndA, int room) {
        StringBuilder run = new StringBuilder("make(0, " + kindAndA + ") = 1\n");
        for (int i = 0; i < room; i++) {
            run.append("give(0, 0, 7, 0.0, 0.0) = 1\n");
        }
        Runs.check(title, run + "give(0, 0, 8, 0.0, 0.0) = 2; channel(0, 1) = " + room);
    }

    private static void barriers() {
        for (int parties = 2; parties <= 5; parties++) {
            StringBuilder run = new StringBuilder("make(0, 6, " + parties + ") = 1\n");
            run.append("channel(0, 3) = 1; channel(0, 4) = 0\n");
            for (int t = 1; t < parties; t++) {
                run.append("arrive(" + t + ", 0, -1.0) = 0\n");
            }
            run.append("arrive(0, 0, -1.0) = 1; channel(0, 3) = 1; channel(0, 4) = 1\n");
            run.append("arrive(0, 0, 0.0) = 2; channel(0, 3) = 0; channel(0, 4) = 1\n");
            Runs.check("6 BARRIER of 2 .. 5 PARTIES, whole or BROKEN (whole at first), with how often it was PASSED,"
                + " 0 at first: " + parties, run.toString());
        }
        Runs.check("6 BARRIER of 2 .. 5 PARTIES: neither below nor above", """
            make(0, 6, 1) = throws.IllegalArgumentException
            make(0, 6, 6) = throws.IllegalArgumentException
            """);
    }

    private static void itemHas() {
        Runs.check("An ITEM has a value, an int", """
            make(0, 0, 2) = 1
            give(0, 0, 2147483647, 0.0, 0.0) = 1; give(0, 0, -2147483648, 0.0, 0.0) = 1
            item(0, 0) = 2147483647; item(0, 1) = -2147483648
            """);
        Runs.check("An ITEM has a RANK, a double", """
            make(0, 3, 0) = 1
            give(0, 0, 1, 0.25, 0.0) = 1; give(0, 0, 2, 0.75, 0.0) = 1; give(0, 0, 3, 0.5, 0.0) = 1
            item(0, 0) = 2; item(0, 1) = 3; item(0, 2) = 1
            """);
        Runs.check("An ITEM has a DUE time, a double", """
            make(0, 4, 0) = 1
            give(0, 0, 1, 0.75, 0.0) = 1; channel(0, 3) = 0
            tick(0.5) = 0; channel(0, 3) = 0
            tick(0.25) = 0; channel(0, 3) = 1
            """);
        Runs.check("An ITEM has a time when it was put IN", """
            make(0, 0, 2) = 1
            tick(0.25) = 0; give(0, 0, 1, 0.0, 0.0) = 1
            tick(0.5) = 0; give(0, 0, 2, 0.0, 0.0) = 1
            tick(0.25) = 0
            take(1, 0, 0.0) = 1; stay(0) = 0.75
            take(1, 0, 0.0) = 1; stay(0) = 0.5
            """);
    }

    private static void orderOfItems() {
        Runs.check("RANKED: by falling RANKS, those with the same as they came", """
            make(0, 3, 0) = 1
            give(0, 0, 1, 1.0, 0.0) = 1; give(0, 0, 2, -3.0, 0.0) = 1; give(0, 0, 3, 1.0, 0.0) = 1
            give(0, 0, 4, 2.5, 0.0) = 1; give(0, 0, 5, 1.0, 0.0) = 1; give(0, 0, 6, 2.5, 0.0) = 1
            item(0, 0) = 4; item(0, 1) = 6; item(0, 2) = 1; item(0, 3) = 3; item(0, 4) = 5; item(0, 5) = 2
            """);
        Runs.check("DELAYED: by rising DUE times, likewise", """
            make(0, 4, 0) = 1
            give(0, 0, 1, 2.0, 0.0) = 1; give(0, 0, 2, 5.0, 0.0) = 1
            tick(1.0) = 0
            # 1.0 behind TIME 1.0 is the same DUE time as 2.0 behind 0.0
            give(0, 0, 3, 1.0, 0.0) = 1; give(0, 0, 4, 0.5, 0.0) = 1
            give(0, 0, 5, 4.0, 0.0) = 1; give(0, 0, 6, 0.5, 0.0) = 1
            item(0, 0) = 4; item(0, 1) = 6; item(0, 2) = 1; item(0, 3) = 3; item(0, 4) = 2; item(0, 5) = 5
            """);
        for (int kind = 0; kind <= 1; kind++) {
            Runs.check("others: as they came: KIND " + kind, """
                make(0, K) = 1
                give(0, 0, 5, 1.0, 0.0) = 1; give(1, 0, 3, -7.0, 0.0) = 1; give(2, 0, 4, 9.0, 0.0) = 1
                item(0, 0) = 5; item(0, 1) = 3; item(0, 2) = 4
                """.replace("K", kind == 0 ? "0, 3" : "1, 0"));
        }
    }

    private static void ready() {
        for (String kind : new String[] {"0, 1", "1, 0", "3, 0"}) {
            Runs.check("The first one is READY if there is one: kind and a " + kind, """
                make(0, K) = 1
                channel(0, 3) = 0; take(1, 0, 0.0) = 2
                give(0, 0, 5, 1000.0, 0.0) = 1
                channel(0, 3) = 1; take(1, 0, 0.0) = 1
                channel(0, 3) = 0; take(1, 0, 0.0) = 2
                give(0, 0, 6, -1000.0, 0.0) = 1
                channel(0, 3) = 1; take(1, 0, 0.0) = 1
                """.replace("K", kind));
        }
        Runs.check("for DELAYED only if its DUE time is not above TIME", """
            make(0, 4, 0) = 1
            channel(0, 3) = 0
            give(0, 0, 5, 1.0, 0.0) = 1; channel(0, 3) = 0; take(1, 0, 0.0) = 2
            tick(0.9999999999999999) = 0; channel(0, 3) = 0; take(1, 0, 0.0) = 2
            tick(1.1102230246251565E-16) = 0; time() = 1.0; channel(0, 3) = 1
            tick(1.0) = 0; channel(0, 3) = 1; take(1, 0, 0.0) = 1; channel(0, 3) = 0
            """);
    }

    private static void waiters() {
        Runs.check("A CHANNEL has WAITERS in the order in which they came: GIVERS with an ITEM", """
            make(0, 0, 1) = 1
            give(0, 0, 10, 0.0, 0.0) = 1
            give(4, 0, 14, 0.0, -1.0) = 0; give(1, 0, 11, 0.0, -1.0) = 0; give(3, 0, 13, 0.0, -1.0) = 0
            channel(0, 2) = 3; channel(0, 5) = 4; channel(0, 6) = 1; channel(0, 7) = 3; channel(0, 8) = -1
            take(0, 0, 0.0) = 1; item(0, 0) = 14; take(0, 0, 0.0) = 1; item(0, 0) = 11
            """);
        Runs.check("GIVERS with an ITEM: it has its RANK and its DUE time while they wait", """
            make(0, 3, 0) = 1; make(1, 4, 0) = 2
            FILL
            give(1, 0, 8, 4.0, -1.0) = 0; take(0, 0, 0.0) = 1; item(0, 0) = 8
            give(1, 0, 9, 1.0, -1.0) = 0; take(0, 0, 0.0) = 1; item(0, 5) = 9
            give(1, 1, 8, 2.0, -1.0) = 0; give(2, 1, 9, 7.0, -1.0) = 0
            tick(3.0) = 0
            take(0, 1, 0.0) = 1; item(1, 0) = 8; take(0, 1, 0.0) = 1; got(0) = 8; item(1, 5) = 9
            """.replace("FILL", "give(0, 0, 1, 3.0, 0.0) = 1; give(0, 1, 1, 3.0, 0.0) = 1\n".repeat(6)));
        Runs.check("A CHANNEL has WAITERS in the order in which they came: TAKERS", """
            make(0, 2, 0) = 1
            take(4, 0, -1.0) = 0; take(1, 0, -1.0) = 0; take(3, 0, -1.0) = 0
            channel(0, 2) = 3; channel(0, 5) = 4; channel(0, 6) = 1; channel(0, 7) = 3; channel(0, 8) = -1
            give(0, 0, 8, 0.0, 0.0) = 1; got(4) = 8; give(0, 0, 9, 0.0, 0.0) = 1; got(1) = 9
            """);
        Runs.check("A CHANNEL has WAITERS in the order in which they came: GIVERS and TAKERS at one", """
            make(0, 4, 0) = 1
            take(5, 0, -1.0) = 0
            give(0, 0, 1, 9.0, 0.0) = 1; give(0, 0, 2, 9.0, 0.0) = 1; give(0, 0, 3, 9.0, 0.0) = 1
            give(0, 0, 4, 9.0, 0.0) = 1; give(0, 0, 5, 9.0, 0.0) = 1; give(0, 0, 6, 9.0, 0.0) = 1
            give(3, 0, 7, 9.0, -1.0) = 0; take(1, 0, -1.0) = 0; give(2, 0, 8, 9.0, -1.0) = 0
            channel(0, 2) = 4; channel(0, 5) = 5; channel(0, 6) = 3; channel(0, 7) = 1; channel(0, 8) = 2
            """);
        Runs.check("or of kinds 5 and 6 just WAITERS", """
            make(0, 5, 0) = 1; make(1, 6, 5) = 2
            swap(2, 0, 9, -1.0) = 0; channel(0, 2) = 1; channel(0, 5) = 2; channel(0, 6) = -1
            arrive(4, 1, -1.0) = 0; arrive(1, 1, -1.0) = 0; arrive(3, 1, -1.0) = 0
            channel(1, 2) = 3; channel(1, 5) = 4; channel(1, 6) = 1; channel(1, 7) = 3; channel(1, 8) = -1
            """);
        Runs.check("each maybe with an END of time", """
            make(0, 1, 0) = 1
            take(0, 0, -1.0) = 0; take(1, 0, 2.0) = 0; take(2, 0, -0.5) = 0; take(3, 0, 1.0) = 0
            tick(1000.0) = 2
            channel(0, 2) = 2; channel(0, 5) = 0; channel(0, 6) = 2
            """);
    }

    private static void servingTakers() {
        for (String kind : new String[] {"0, 1", "1, 0", "3, 0", "4, 0"}) {
            Runs.check("SERVING: a TAKER waits and the first ITEM is READY: the first TAKER TAKES it: " + kind, """
                make(0, K) = 1
                take(3, 0, -1.0) = 0; take(1, 0, -1.0) = 0
                give(0, 0, 5, 0.0, 0.0) = 1
                got(3) = 5; thread(3, 1) = 1; got(1) = throws.NoSuchElementException
                thread(1, 1) = 0; channel(0, 1) = 0; channel(0, 2) = 1
                """.replace("K", kind));
        }
        Runs.check("SERVING: a TAKER waits and the first ITEM is not READY: it waits on", """
            make(0, 4, 0) = 1
            take(3, 0, -1.0) = 0
            give(0, 0, 5, 1.0, 0.0) = 1
            thread(3, 1) = 0; channel(0, 1) = 1; channel(0, 2) = 1
            tick(0.5) = 0; thread(3, 1) = 0
            tick(0.5) = 0; thread(3, 1) = 1; got(3) = 5
            """);
    }

    private static void servingGivers() {
        int[] rooms = {1, 16, 0, 6, 6};
        for (int kind = 0; kind <= 4; kind++) {
            if (rooms[kind] == 0) {
                continue;
            }
            String fill = "give(0, 0, 5, 0.0, 0.0) = 1\n".repeat(rooms[kind]);
            Runs.check("SERVING: a GIVER waits and there are fewer ITEMS than ROOM: the ITEM of the first GIVER is IN,"
                + " now: KIND " + kind, "make(0, " + KIND_AND_A[kind] + ") = 1\n" + fill + """
                give(4, 0, 8, 0.0, -1.0) = 0; give(2, 0, 9, 0.0, -1.0) = 0
                channel(0, 1) = LAST; thread(4, 1) = 0
                tick(2.0) = 0
                take(1, 0, 0.0) = 1; stay(0) = 2.0
                channel(0, 1) = LAST; thread(4, 1) = 1; thread(2, 1) = 0; channel(0, 5) = 2; channel(0, 2) = 1
                """.replace("LAST", "" + rooms[kind]));
        }
        Runs.check("SERVING: the ITEM of the first GIVER is IN, now: its time is not that of its call", """
            make(0, 0, 1) = 1
            give(0, 0, 1, 0.0, 0.0) = 1; give(2, 0, 9, 0.0, -1.0) = 0
            tick(3.0) = 0
            take(1, 0, 0.0) = 1; stay(0) = 3.0
            tick(1.0) = 0
            take(1, 0, 0.0) = 1; got(1) = 9; stay(0) = 2.0
            """);
    }

    /** Six ITEMS, the first few DUE at 2.0, the others long after. */
    private static String fullDelayed(int soon) {
        return "make(0, 4, 0) = 1\n" + "give(0, 0, 1, 2.0, 0.0) = 1\n".repeat(soon)
            + "give(0, 0, 2, 900.0, 0.0) = 1\n".repeat(6 - soon);
    }

    private static void servingAgainAndAgain() {
        Runs.check("SERVING: again and again: three TAKERS, three ITEMS and one moment", fullDelayed(3) + """
            take(1, 0, -1.0) = 0; take(2, 0, -1.0) = 0; take(3, 0, -1.0) = 0
            tick(2.0) = 0
            thread(1, 1) = 1; thread(2, 1) = 1; thread(3, 1) = 1; channel(0, 1) = 3; channel(0, 2) = 0
            """);
        Runs.check("SERVING: again and again: what a GIVER brings IN goes on to the next TAKER", fullDelayed(1) + """
            give(0, 0, 30, 0.0, -1.0) = 0; give(4, 0, 34, 0.0, -1.0) = 0; give(5, 0, 35, 0.0, -1.0) = 0
            take(1, 0, -1.0) = 0; take(2, 0, -1.0) = 0; take(3, 0, -1.0) = 0
            tick(2.0) = 0
            got(1) = 1; got(2) = 30; got(3) = 34
            thread(5, 1) = 1; item(0, 0) = 35; channel(0, 1) = 6; channel(0, 2) = 0
            """);
    }

    private static void servingTheFirstThatCanBe() {
        // After the first TAKER both can be: the second TAKER TAKES what is READY before the GIVER's ITEM is IN,
        // though that one would be the first by its DUE time.
        Runs.check("SERVING: one of these, the first that can be", fullDelayed(2) + """
            give(0, 0, 30, 0.5, -1.0) = 0
            take(1, 0, -1.0) = 0; take(2, 0, -1.0) = 0
            tick(2.0) = 0
            got(1) = 1; got(2) = 1
            thread(0, 1) = 1; item(0, 0) = 30; channel(0, 1) = 5; channel(0, 3) = 1
            """);
    }

    private static void whoWasServed() {
        Runs.check("Who was served waits no more, is RUNNING, OUTCOME 1: a TAKER", """
            make(0, 1, 0) = 1
            take(1, 0, 3.0) = 0; give(0, 0, 5, 0.0, 0.0) = 1
            channel(0, 2) = 0; channel(0, 5) = -1; thread(1, 0) = 0; thread(1, 1) = 1; thread(1, 3) = -1
            # its END is gone too
            tick(3.0) = 0; thread(1, 1) = 1
            """);
        Runs.check("Who was served waits no more, is RUNNING, OUTCOME 1: a GIVER", """
            make(0, 0, 1) = 1
            give(0, 0, 5, 0.0, 0.0) = 1; give(1, 0, 6, 0.0, 3.0) = 0; take(0, 0, 0.0) = 1
            channel(0, 2) = 0; channel(0, 5) = -1; thread(1, 0) = 0; thread(1, 1) = 1; thread(1, 3) = -1
            tick(3.0) = 0; thread(1, 1) = 1
            """);
        Runs.check("Who was served waits no more, is RUNNING, OUTCOME 1: a GIVER and a TAKER of a DIRECT one", """
            make(0, 2, 0) = 1
            give(1, 0, 6, 0.0, 3.0) = 0; take(0, 0, 0.0) = 1
            channel(0, 2) = 0; thread(1, 0) = 0; thread(1, 1) = 1; thread(1, 3) = -1
            take(2, 0, 3.0) = 0; give(0, 0, 7, 0.0, 0.0) = 1
            channel(0, 2) = 0; thread(2, 0) = 0; thread(2, 1) = 1; thread(2, 3) = -1
            tick(3.0) = 0; thread(1, 1) = 1; thread(2, 1) = 1
            """);
    }

    private static void toTake() {
        Runs.check("To TAKE an ITEM: it is in the CHANNEL no more, its value is what the THREAD GOT", """
            make(0, 0, 2) = 1
            give(0, 0, 5, 0.0, 0.0) = 1; give(0, 0, 6, 0.0, 0.0) = 1
            take(1, 0, 0.0) = 1
            channel(0, 1) = 1; item(0, 0) = 6; item(0, 1) = throws.IndexOutOfBoundsException
            got(1) = 5; got(0) = throws.NoSuchElementException
            """);
        Runs.check("how long it was IN is added to the CHANNEL's STAY", """
            make(0, 1, 0) = 1; make(1, 1, 0) = 2
            give(0, 0, 5, 0.0, 0.0) = 1; give(0, 0, 6, 0.0, 0.0) = 1; give(0, 1, 7, 0.0, 0.0) = 1
            stay(0) = throws.ArithmeticException
            tick(1.0) = 0; take(1, 0, 0.0) = 1; stay(0) = 1.0
            tick(3.0) = 0; take(1, 0, 0.0) = 1; stay(0) = 2.5
            # a TAKER that waits takes it at once
            take(1, 0, -1.0) = 0; tick(1.0) = 0; give(0, 0, 8, 0.0, 0.0) = 1; stay(0) = 1.6666666666666667
            stay(1) = throws.ArithmeticException
            """);
        Runs.check("(DIRECT: 0.0) is added to the CHANNEL's STAY", """
            make(0, 2, 0) = 1
            give(0, 0, 5, 0.0, -1.0) = 0; tick(4.0) = 0; stay(0) = throws.ArithmeticException
            take(1, 0, 0.0) = 1; stay(0) = 0.0
            take(1, 0, -1.0) = 0; tick(4.0) = 0; give(0, 0, 5, 0.0, 0.0) = 1; stay(0) = 0.0
            """);
    }

    private static final String[][] WAITS = {
        // what is there before; a call of THREAD 5 that WAITS, with L for its limit
        {"make(0, 0, 1) = 1; give(0, 0, 1, 0.0, 0.0) = 1", "give(5, 0, 2, 0.0, L)"},
        {"make(0, 1, 0) = 1; " + "give(0, 0, 1, 0.0, 0.0) = 1; ".repeat(16), "give(5, 0, 2, 0.0, L)"},
        {"make(0, 2, 0) = 1", "give(5, 0, 2, 0.0, L)"},
        {"make(0, 3, 0) = 1; " + "give(0, 0, 1, 0.0, 0.0) = 1; ".repeat(6), "give(5, 0, 2, 0.0, L)"},
        {"make(0, 4, 0) = 1; " + "give(0, 0, 1, 0.0, 0.0) = 1; ".repeat(6), "give(5, 0, 2, 0.0, L)"},
        {"make(0, 0, 1) = 1", "take(5, 0, L)"},
        {"make(0, 1, 0) = 1", "take(5, 0, L)"},
        {"make(0, 2, 0) = 1", "take(5, 0, L)"},
        {"make(0, 3, 0) = 1", "take(5, 0, L)"},
        {"make(0, 4, 0) = 1; give(0, 0, 1, 900.0, 0.0) = 1", "take(5, 0, L)"},
        {"make(0, 5, 0) = 1", "swap(5, 0, 2, L)"},
        {"make(0, 6, 3) = 1", "arrive(5, 0, L)"},
    };

    private static String waitFor(String[] wait, String limit) {
        return wait[0] + "\n" + wait[1].replace("L", limit);
    }

    private static void toWaitForNothing() {
        for (String[] wait : WAITS) {
            for (String limit : new String[] {"0.0", "-0.0"}) {
                Runs.check("To WAIT: limit 0.0: nothing waits, OUTCOME and answer 2: " + wait[1] + " for " + limit,
                    waitFor(wait, limit) + " = 2\n" + """
                    thread(5, 0) = 0; thread(5, 1) = 2; thread(5, 3) = -1; channel(0, 2) = 0; channel(0, 5) = -1
                    tick(1000.0) = 0
                    """);
            }
        }
    }

    private static void toWait() {
        for (String[] wait : WAITS) {
            Runs.check("Else it is the last WAITER, BLOCKED, OUTCOME and answer 0: " + wait[1],
                wait[0] + "\n" + wait[1].replace("(5", "(3").replace("L", "-1.0") + " = 0\n"
                + (wait[1].startsWith("swap") ? "interrupt(3) = 3\n" : "channel(0, 5) = 3\n")
                + wait[1].replace("L", "-1.0") + " = 0\n"
                + "thread(5, 0) = 1; thread(5, 1) = 0; thread(5, 3) = 0\n"
                + (wait[1].startsWith("swap") ? "channel(0, 2) = 1; channel(0, 5) = 5; channel(0, 6) = -1\n"
                    : "channel(0, 2) = 2; channel(0, 5) = 3; channel(0, 6) = 5; channel(0, 7) = -1\n"));
        }
    }

    private static void endOfAWait() {
        for (String[] wait : WAITS) {
            Runs.check("its END at TIME plus limit for a limit above 0.0: " + wait[1],
                "tick(1.0) = 0\n" + waitFor(wait, "2.5") + " = 0\n" + """
                tick(2.0) = 0; thread(5, 1) = 0
                tick(0.4999999999999991) = 0; thread(5, 1) = 0
                tick(1.0) = 1; thread(5, 1) = 2
                """);
            Runs.check("its END at TIME plus limit, just then: " + wait[1],
                "tick(1.0) = 0\n" + waitFor(wait, "2.5") + " = 0\ntick(2.5) = 1; thread(5, 1) = 2");
            for (String limit : new String[] {"-1.0", "-0.5", "-4.9E-324"}) {
                Runs.check("without for one below: " + wait[1] + " for " + limit,
                    waitFor(wait, limit) + " = 0\ntick(800.0) = 0; thread(5, 1) = 0; channel(0, 2) = 1");
            }
        }
    }

    private static void lateOrInterrupted() {
        String after = "thread(5, 0) = 0; thread(5, 1) = OUTCOME; thread(5, 2) = 0; thread(5, 3) = -1; channel(0, 2) = 0\n";
        for (String[] wait : WAITS) {
            Runs.check("A THREAD that waits no more by LATE: RUNNING with that OUTCOME: " + wait[1],
                waitFor(wait, "1.0") + " = 0\ntick(1.0) = 1\n" + after.replace("OUTCOME", "2"));
            Runs.check("A THREAD that waits no more by INTERRUPTED: RUNNING with that OUTCOME: " + wait[1],
                waitFor(wait, "1.0") + " = 0\ninterrupt(5) = 3\n" + after.replace("OUTCOME", "3")
                + "tick(1.0) = 0; thread(5, 1) = 3");
        }
        Runs.check("A THREAD that waits no more by LATE or INTERRUPTED: the other WAITERS of kinds 0 .. 5 wait on", """
            make(0, 1, 0) = 1; make(1, 5, 0) = 2
            take(0, 0, -1.0) = 0; take(1, 0, 1.0) = 0; take(2, 0, -1.0) = 0; take(3, 0, 5.0) = 0; swap(4, 1, 7, -1.0) = 0
            tick(1.0) = 1; channel(0, 5) = 0; channel(0, 6) = 2; channel(0, 7) = 3; channel(0, 8) = -1
            interrupt(2) = 3; channel(0, 5) = 0; channel(0, 6) = 3; channel(0, 7) = -1
            channel(1, 5) = 4; thread(4, 1) = 0
            """);
    }

    private static void lateOrInterruptedAtABarrier() {
        String three = """
            make(0, 6, 4) = 1; make(1, 6, 3) = 2
            arrive(4, 0, -1.0) = 0; arrive(2, 0, 1.0) = 0; arrive(0, 0, 1.0) = 0
            arrive(3, 1, -1.0) = 0
            """;
        String others = """
            channel(0, 3) = 0; channel(0, 2) = 0; channel(0, 4) = 0
            thread(4, 0) = 0; thread(4, 1) = 4; thread(4, 3) = -1; thread(4, 2) = 0
            thread(2, 0) = 0; thread(2, 1) = 4; thread(2, 3) = -1; thread(2, 2) = 0
            thread(3, 1) = 0; channel(1, 3) = 1; channel(1, 2) = 1
            tick(9.0) = 0; thread(2, 1) = 4
            """;
        Runs.check("of a BARRIER: it is BROKEN, and all its other WAITERS wait no more, RUNNING, OUTCOME 4: by LATE",
            three + "tick(1.0) = 1; thread(0, 0) = 0; thread(0, 1) = 2\n" + others);
        Runs.check("of a BARRIER: it is BROKEN, and all its other WAITERS wait no more, RUNNING, OUTCOME 4: by INTERRUPTED",
            three + "interrupt(0) = 3; thread(0, 0) = 0; thread(0, 1) = 3\n" + others);
    }

    private static void whatIsThrown() {
        // 0 is there, of the right KIND for give and take; 1 is an EXCHANGE, 2 a BARRIER, 3 a BROKEN one, 4 is not
        // there. THREAD 1 is BLOCKED.
        String before = """
            make(0, 1, 0) = 1; make(1, 5, 0) = 2; make(2, 6, 2) = 3; make(3, 6, 2) = 4
            arrive(0, 3, 0.0) = 2; take(1, 0, 5.0) = 0
            """;
        String title = "What is thrown, in this order: IllegalArgumentException, NoSuchElementException,"
            + " IllegalStateException, UnsupportedOperationException, then as the call says: ";
        String thread = "0 5 ISE 1 IAE -1 6";
        String limit = "-1.0 0.0 1000.0 IAE -1.5 1000.5 NaN";
        Cross.check(title + "give", before, "give", thread, "0 NSE 4 UOE 1 2 3 IAE -1 8", "7", "0.0 IAE 1001.0", limit);
        Cross.check(title + "take", before, "take", thread, "0 NSE 4 UOE 1 2 3 IAE -1 8", limit);
        Cross.check(title + "swap", before, "swap", thread, "1 NSE 4 UOE 0 2 3 IAE -1 8", "7", limit);
        Cross.check(title + "arrive", before, "arrive", thread, "2 NSE 4 UOE 0 1 AE 3 IAE -1 8", limit);
        Cross.check(title + "reset", before, "reset", "2 3 NSE 4 UOE 0 1 IAE -1 8");
        Cross.check(title + "make", before, "make", "4 7 ISE 0 3 IAE -1 8", "1 5 IAE -1 7", "0 IAE 1");
        Cross.check(title + "channel", before, "channel", "0 3 NSE 4 IAE -1 8", "0 10 IAE -1 11");
        Cross.check(title + "stay", before, "stay", "AE 0 1 2 3 NSE 4 IAE -1 8");
    }

    private static void nothingChanges() {
        // Runs.check looks at the whole state, and at what comes of it, behind every call here that is refused.
        Runs.check("A call that throws changes nothing", """
            make(0, 0, 1) = 1; make(1, 6, 2) = 2; make(2, 6, 2) = 3; make(3, 5, 0) = 4
            give(0, 0, 1, 0.0, 0.0) = 1; give(1, 0, 2, 0.0, 3.0) = 0; arrive(2, 1, 4.0) = 0
            swap(3, 3, 9, 2.0) = 0; arrive(0, 2, 0.0) = 2; interrupt(4) = -1; tick(0.5) = 0
            make(1, 0, 2) = throws.IllegalStateException
            give(4, 0, 3, 1001.0, -1.0) = throws.IllegalArgumentException
            give(4, 1, 3, 0.0, -1.0) = throws.UnsupportedOperationException
            give(1, 0, 3, 0.0, -1.0) = throws.IllegalStateException
            take(4, 0, 1001.0) = throws.IllegalArgumentException
            take(4, 4, -1.0) = throws.NoSuchElementException
            take(2, 0, -1.0) = throws.IllegalStateException
            swap(4, 0, 3, -1.0) = throws.UnsupportedOperationException
            swap(3, 3, 3, -1.0) = throws.IllegalStateException
            arrive(4, 2, -1.0) = throws.ArithmeticException
            arrive(2, 1, -1.0) = throws.IllegalStateException
            reset(0) = throws.UnsupportedOperationException
            interrupt(6) = throws.IllegalArgumentException
            tick(1000.5) = throws.IllegalArgumentException
            got(5) = throws.NoSuchElementException
            item(0, 1) = throws.IndexOutOfBoundsException
            stay(0) = throws.ArithmeticException
            time() = 0.5; thread(4, 2) = 1; thread(4, 1) = -1; tick(1000.0) = 3
            """);
    }
}

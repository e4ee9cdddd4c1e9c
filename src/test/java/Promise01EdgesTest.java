/** A new object, at the edges: every CHANNEL, every THREAD, and the numbers just outside. */
public final class Promise01EdgesTest {
    public static void main(String[] args) {
        noChannels();
        everyThreadAtItsStart();
        timeAtItsStart();
        numbersJustOutside();
        twoObjects();
        Runs.end();
    }

    private static void noChannels() {
        for (int c = 0; c < 8; c++) {
            Runs.check("No CHANNELS: " + c + " is not there, whatever is asked of it", """
                channel(C, 0) = throws.NoSuchElementException
                channel(C, 10) = throws.NoSuchElementException
                item(C, 0) = throws.NoSuchElementException
                stay(C) = throws.NoSuchElementException
                reset(C) = throws.NoSuchElementException
                give(0, C, 1, 0.0, 0.0) = throws.NoSuchElementException
                take(0, C, 0.0) = throws.NoSuchElementException
                swap(0, C, 1, 0.0) = throws.NoSuchElementException
                arrive(0, C, 0.0) = throws.NoSuchElementException
                """.replace("C", "" + c));
            Runs.check("No CHANNELS: " + c + " is the first one", "make(" + c + ", 1, 0) = 1");
        }
    }

    private static void everyThreadAtItsStart() {
        for (int t = 0; t < 6; t++) {
            Runs.check("THREAD " + t + " is RUNNING, OUTCOME -1, its FLAG not set, GOT nothing", """
                thread(T, 0) = 0
                thread(T, 1) = -1
                thread(T, 2) = 0
                thread(T, 3) = -1
                got(T) = throws.NoSuchElementException
                """.replace("T,", t + ",").replace("T)", t + ")"));
            Runs.check("THREAD " + t + " can be interrupted at once", "interrupt(" + t + ") = -1");
        }
    }

    private static void timeAtItsStart() {
        Runs.check("TIME is 0.0 at first, and nobody is LATE", """
            time() = 0.0
            tick(0.0) = 0
            time() = 0.0
            tick(1000.0) = 0
            time() = 1000.0
            """);
    }

    private static void numbersJustOutside() {
        Runs.check("THREADS 0 .. 5, CHANNELS 0 .. 7: there is none beyond", """
            thread(-1, 0) = throws.IllegalArgumentException
            thread(6, 0) = throws.IllegalArgumentException
            got(-1) = throws.IllegalArgumentException
            got(6) = throws.IllegalArgumentException
            channel(-1, 0) = throws.IllegalArgumentException
            channel(8, 0) = throws.IllegalArgumentException
            """);
    }

    private static void twoObjects() {
        ChannelHall one = new ChannelHall();
        one.make(0, 1, 0);
        one.take(0, 0, -1.0);
        one.interrupt(1);
        one.tick(1.0);
        if (!Snapshot.of(new ChannelHall()).equals(Snapshot.of(new ChannelHall()))) {
            Runs.fail("two new objects differ");
        }
        ChannelHall other = new ChannelHall();
        if (other.time() != 0.0 || other.thread(0, 0) != 0 || other.thread(1, 2) != 0 || other.make(0, 1, 0) != 1) {
            Runs.fail("a new object knows of an older one's calls");
        }
    }
}

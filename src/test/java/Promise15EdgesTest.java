/** time, at the edges. */
public final class Promise15EdgesTest {
    public static void main(String[] args) {
        smallestAndLargestSteps();
        onlyTickMovesIt();
        refusedTicks();
        farAway();
        Runs.end();
    }

    private static void smallestAndLargestSteps() {
        Runs.check("TIME: 0.0 at first, by the smallest and the largest steps", """
            time() = 0.0
            tick(0.0) = 0; time() = 0.0
            tick(-0.0) = 0; time() = 0.0
            tick(4.9E-324) = 0; time() = 4.9E-324
            tick(4.9E-324) = 0; time() = 9.9E-324
            tick(1000.0) = 0; time() = 1000.0
            # too small to be seen beside it
            tick(4.9E-324) = 0; time() = 1000.0
            tick(1000.0) = 0; time() = 2000.0
            time() = 2000.0
            """);
    }

    private static void onlyTickMovesIt() {
        Runs.check("TIME: no other call moves it", """
            tick(1.25) = 0
            make(0, 4, 0) = 1; make(1, 5, 0) = 2; make(2, 6, 2) = 3
            give(0, 0, 1, 3.0, 1.0) = 1; time() = 1.25
            take(1, 0, 1.0) = 0; time() = 1.25
            swap(2, 1, 1, 1.0) = 0; time() = 1.25
            arrive(3, 2, 1.0) = 0; time() = 1.25
            interrupt(2) = 3; interrupt(1) = 3; reset(2) = 1; time() = 1.25
            channel(0, 3) = 0; item(0, 0) = 1; thread(0, 1) = 1; got(3) = 0; time() = 1.25
            """);
        Runs.check("TIME: after a tick with moments in it is G, not the last moment", """
            make(0, 4, 0) = 1
            give(0, 0, 1, 3.0, 1.0) = 1; take(1, 0, -1.0) = 0; take(2, 0, 4.0) = 0
            tick(7.5) = 1; time() = 7.5; stay(0) = 3.0
            """);
    }

    private static void refusedTicks() {
        Runs.check("TIME: a tick that is refused leaves it", """
            tick(2.0) = 0
            tick(-4.9E-324) = throws.IllegalArgumentException
            tick(1000.0000000000001) = throws.IllegalArgumentException
            tick(NaN) = throws.IllegalArgumentException
            time() = 2.0
            """);
    }

    private static void farAway() {
        StringBuilder run = new StringBuilder("make(0, 2, 0) = 1; make(1, 4, 0) = 2\n");
        run.append("tick(1000.0) = 0\n".repeat(490)).append("time() = 490000.0\n");
        run.append("give(0, 1, 1, 0.5, 0.0) = 1; take(1, 0, 0.25) = 0; take(2, 1, 0.5) = 0\n");
        run.append("tick(0.5) = 1; got(2) = 1; thread(1, 1) = 2; time() = 490000.5\n");
        Runs.check("TIME: as far as an object's calls bring it", run.toString());
    }
}

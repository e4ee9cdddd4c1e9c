/** time: TIME, which only tick moves. */
public final class Promise15Test {
    public static void main(String[] args) {
        Runs.check("it is what the ticks make of it", """
            time() = 0.0
            tick(0.0) = 0
            time() = 0.0
            tick(0.1) = 0
            time() = 0.1
            tick(0.2) = 0
            time() = 0.30000000000000004
            tick(1000.0) = 0
            time() = 1000.3
            make(0, 4, 0) = 1
            give(0, 0, 1, 5.0, 0.0) = 1
            take(1, 0, 2.0) = 0
            time() = 1000.3
            tick(3.0) = 1
            time() = 1003.3
            tick(1000.5) = throws.IllegalArgumentException
            time() = 1003.3
            """);

        StringBuilder run = new StringBuilder();
        for (int i = 1; i <= 256; i++) {
            run.append("tick(1000.0) = 0\n").append("time() = " + i * 1000.0 + "\n");
        }
        Runs.check("as far as it goes", run.toString());
        Runs.end();
    }
}

/** A new object: no CHANNELS, all THREADS RUNNING, TIME 0.0. */
public final class Promise01Test {
    public static void main(String[] args) {
        StringBuilder run = new StringBuilder("time() = 0.0\n");
        for (int c = 0; c < 8; c++) {
            run.append("channel(" + c + ", 0) = throws.NoSuchElementException\n");
            run.append("item(" + c + ", 0) = throws.NoSuchElementException\n");
            run.append("stay(" + c + ") = throws.NoSuchElementException\n");
            run.append("reset(" + c + ") = throws.NoSuchElementException\n");
            run.append("give(0, " + c + ", 1, 0.0, 0.0) = throws.NoSuchElementException\n");
            run.append("take(0, " + c + ", 0.0) = throws.NoSuchElementException\n");
            run.append("swap(0, " + c + ", 1, 0.0) = throws.NoSuchElementException\n");
            run.append("arrive(0, " + c + ", 0.0) = throws.NoSuchElementException\n");
        }
        for (int t = 0; t < 6; t++) {
            run.append("thread(" + t + ", 0) = 0\n");
            run.append("thread(" + t + ", 1) = -1\n");
            run.append("thread(" + t + ", 2) = 0\n");
            run.append("thread(" + t + ", 3) = -1\n");
            run.append("got(" + t + ") = throws.NoSuchElementException\n");
        }
        Runs.check("a new object", run.toString());

        Runs.check("the first channel counts from none", "make(7, 1, 0) = 1");

        ChannelHall one = new ChannelHall();
        ChannelHall other = new ChannelHall();
        one.make(0, 1, 0);
        one.tick(1.0);
        if (!Runs.answer(other, "channel(0, 0)").equals("throws.NoSuchElementException") || other.time() != 0.0) {
            Runs.fail("two objects share their state");
        }
        Runs.end();
    }
}

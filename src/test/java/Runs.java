import java.util.ArrayList;
import java.util.List;

/**
 * Runs of calls written as text, a call a line (or several with ";" between them) with the answer that is due
 * behind "=": a number, or throws.X for an exception X. A line that begins with # is a remark. Of every call
 * that is due to throw it is looked at too that it changed nothing.
 */
final class Runs {
    /** What the document says of an object's life; a run beyond it would test nothing that is promised. */
    private static final int MOST_CALLS = 512;

    private static int done = 0;
    private static int wrong = 0;

    record Row(String call, String due) {
        boolean isRefused() {
            return due.startsWith("throws.");
        }
    }

    private Runs() {
    }

    static void check(String title, String text) {
        List<Row> rows = rows(text);
        ChannelHall hall = new ChannelHall();
        List<String> before = new ArrayList<>();
        for (Row row : rows) {
            String got = answer(hall, row.call);
            if (!same(got, row.due)) {
                fail(title + ": call " + (before.size() + 1) + ", " + row.call + " answered " + got
                        + ", due is " + row.due);
            }
            if (row.isRefused()) {
                Unchanged.check(title, before, row.call);
            }
            before.add(row.call);
        }
        if (rows.size() > MOST_CALLS) {
            fail(title + ": " + rows.size() + " calls are more than an object is used for");
        }
        done++;
    }

    static List<Row> rows(String text) {
        List<Row> rows = new ArrayList<>();
        for (String line : text.split("\n")) {
            if (line.strip().startsWith("#")) {
                continue;
            }
            for (String part : line.split(";")) {
                if (!part.isBlank()) {
                    int equals = part.lastIndexOf('=');
                    rows.add(new Row(part.substring(0, equals).strip(), part.substring(equals + 1).strip()));
                }
            }
        }
        return rows;
    }

    static void fail(String what) {
        wrong++;
        System.out.println(what);
    }

    static void end() {
        if (wrong != 0) {
            System.out.println(wrong + " answers are not as due");
            System.exit(1);
        }
        if (done != 0) {
            System.out.println(done + " runs as due");
        }
    }

    static boolean same(String got, String due) {
        if (got.startsWith("throws.") || due.startsWith("throws.")) {
            return got.equals(due);
        }
        return Double.parseDouble(got) == Double.parseDouble(due);
    }

    static String answer(ChannelHall hall, String call) {
        int open = call.indexOf('(');
        String inside = call.substring(open + 1, call.lastIndexOf(')')).strip();
        String[] parts = inside.isEmpty() ? new String[0] : inside.split(",");
        double[] args = new double[parts.length];
        for (int i = 0; i < parts.length; i++) {
            args[i] = Double.parseDouble(parts[i].strip());
        }
        return answer(hall, call.substring(0, open), args);
    }

    /** An exception that the library threw, such as a list's for a wrong index, is a fault even where its name fits. */
    private static boolean isThrownByHall(RuntimeException e) {
        StackTraceElement[] trace = e.getStackTrace();
        return trace.length > 0 && trace[0].getClassName().startsWith("ChannelHall");
    }

    /** Every int is a double exactly, so one row of doubles carries the arguments of every call. */
    static String answer(ChannelHall hall, String name, double... a) {
        try {
            return switch (name) {
                case "make" -> "" + hall.make((int) a[0], (int) a[1], (int) a[2]);
                case "give" -> "" + hall.give((int) a[0], (int) a[1], (int) a[2], a[3], a[4]);
                case "take" -> "" + hall.take((int) a[0], (int) a[1], a[2]);
                case "swap" -> "" + hall.swap((int) a[0], (int) a[1], (int) a[2], a[3]);
                case "arrive" -> "" + hall.arrive((int) a[0], (int) a[1], a[2]);
                case "reset" -> "" + hall.reset((int) a[0]);
                case "interrupt" -> "" + hall.interrupt((int) a[0]);
                case "tick" -> "" + hall.tick(a[0]);
                case "got" -> "" + hall.got((int) a[0]);
                case "thread" -> "" + hall.thread((int) a[0], (int) a[1]);
                case "channel" -> "" + hall.channel((int) a[0], (int) a[1]);
                case "item" -> "" + hall.item((int) a[0], (int) a[1]);
                case "stay" -> "" + hall.stay((int) a[0]);
                case "time" -> "" + hall.time();
                default -> throw new AssertionError("no such call: " + name);
            };
        } catch (RuntimeException e) {
            return "throws." + e.getClass().getSimpleName() + (isThrownByHall(e) ? "" : ".byItself");
        }
    }
}

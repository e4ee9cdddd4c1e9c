/** What an object answers to many calls, as one text; none of them makes more than 271 calls. */
final class Snapshot {
    private Snapshot() {
    }

    /** All that can be asked without a change. */
    static String of(ChannelHall hall) {
        StringBuilder all = new StringBuilder("time " + hall.time());
        for (int t = 0; t < 6; t++) {
            all.append("\nthread ").append(t).append(": got ").append(Runs.answer(hall, "got", t));
            for (int what = 0; what < 4; what++) {
                all.append(' ').append(hall.thread(t, what));
            }
        }
        for (int c = 0; c < 8; c++) {
            all.append("\nchannel ").append(c).append(": stay ").append(Runs.answer(hall, "stay", c));
            if (!Runs.answer(hall, "channel", c, 0).startsWith("throws.")) {
                appendChannel(all, hall, c);
            }
        }
        return all.toString();
    }

    private static void appendChannel(StringBuilder all, ChannelHall hall, int c) {
        for (int what = 0; what < 11; what++) {
            all.append(' ').append(Runs.answer(hall, "channel", c, what));
        }
        String item = "items";
        for (int i = 0; i < 17 && !item.startsWith("throws."); i++) {
            all.append(' ').append(item);
            item = Runs.answer(hall, "item", c, i);
        }
    }

    /** What every thread can take or swap at every channel: this shows what the waiters hold. */
    static String ofTakes(ChannelHall hall) {
        StringBuilder all = new StringBuilder("\ntakes");
        for (int c = 0; c < 8; c++) {
            for (int t = 0; t < 6; t++) {
                all.append(' ').append(Runs.answer(hall, "take", t, c, 0.0));
                all.append(' ').append(Runs.answer(hall, "swap", t, c, 7, 0.0));
                all.append(' ').append(Runs.answer(hall, "got", t));
            }
        }
        return all.toString();
    }

    /** What becomes of every thread as time goes on, to every half and to just before it: this shows the ends of waits. */
    static String ofTicks(ChannelHall hall) {
        StringBuilder all = new StringBuilder("\nticks");
        for (int i = 0; i < 8; i++) {
            appendTick(all, hall, 0.4375);
            appendTick(all, hall, 0.0625);
        }
        appendTick(all, hall, 1000.0);
        return all.toString();
    }

    private static void appendTick(StringBuilder all, ChannelHall hall, double by) {
        all.append(' ').append(hall.tick(by));
        for (int t = 0; t < 6; t++) {
            all.append(' ').append(hall.thread(t, 1)).append(' ').append(Runs.answer(hall, "got", t));
        }
    }
}

/** All that can be asked of an object, as one text: 263 calls, so that a run of 200 fits before it. */
final class Snapshot {
    private Snapshot() {
    }

    static String of(ChannelHall hall) {
        StringBuilder all = new StringBuilder("time " + hall.time());
        for (int t = 0; t < 6; t++) {
            all.append("\nthread ").append(t).append(": got ").append(Runs.answer(hall, "got(" + t + ")"));
            for (int what = 0; what < 4; what++) {
                all.append(' ').append(hall.thread(t, what));
            }
        }
        for (int c = 0; c < 8; c++) {
            all.append("\nchannel ").append(c).append(": stay ").append(Runs.answer(hall, "stay(" + c + ")"));
            for (int what = 0; what < 11; what++) {
                all.append(' ').append(Runs.answer(hall, "channel(" + c + ", " + what + ")"));
            }
            for (int i = 0; i < 17; i++) {
                all.append(' ').append(Runs.answer(hall, "item(" + c + ", " + i + ")"));
            }
        }
        return all.toString();
    }
}

import java.util.ArrayList;
import java.util.List;

/**
 * One call with every choice of its arguments from one row for each: which exception it throws if several
 * things are wrong at once, and that it throws none if none is wrong. A row is a text of numbers; those behind
 * the short name of an exception are wrong in its way, those at the front are right.
 */
final class Cross {
    /** In the order in which the document has them thrown. */
    private static final String[] SHORT = {"IAE", "NSE", "ISE", "UOE", "AE"};
    private static final String[] THROWN = {
        "throws.IllegalArgumentException", "throws.NoSuchElementException", "throws.IllegalStateException",
        "throws.UnsupportedOperationException", "throws.ArithmeticException",
    };
    private static final int RIGHT = SHORT.length;

    private record Choice(String arguments, int fault) {
    }

    private Cross() {
    }

    static void check(String title, String before, String name, String... rows) {
        Runs.check(title + " (the calls before)", before);
        List<String> calls = Runs.rows(before).stream().map(Runs.Row::call).toList();
        List<Choice> choices = List.of(new Choice("", RIGHT));
        for (String row : rows) {
            choices = joined(choices, choicesOf(row));
        }
        for (Choice choice : choices) {
            checkOne(title, calls, name + "(" + choice.arguments + ")", choice.fault);
        }
    }

    private static void checkOne(String title, List<String> before, String call, int fault) {
        ChannelHall hall = new ChannelHall();
        before.forEach(earlier -> Runs.answer(hall, earlier));
        String got = Runs.answer(hall, call);
        if (fault == RIGHT) {
            if (got.startsWith("throws.")) {
                Runs.fail(title + ": " + call + " answered " + got + ", nothing is to be thrown");
            }
            return;
        }
        if (!got.equals(THROWN[fault])) {
            Runs.fail(title + ": " + call + " answered " + got + ", due is " + THROWN[fault]);
        }
        Unchanged.check(title, before, call);
    }

    private static List<Choice> choicesOf(String row) {
        List<Choice> choices = new ArrayList<>();
        int fault = RIGHT;
        for (String word : row.strip().split("\\s+")) {
            int named = List.of(SHORT).indexOf(word);
            if (named >= 0) {
                fault = named;
            } else {
                choices.add(new Choice(word, fault));
            }
        }
        return choices;
    }

    private static List<Choice> joined(List<Choice> heads, List<Choice> tails) {
        List<Choice> all = new ArrayList<>();
        for (Choice head : heads) {
            for (Choice tail : tails) {
                String between = head.arguments.isEmpty() ? "" : ", ";
                all.add(new Choice(head.arguments + between + tail.arguments, Math.min(head.fault, tail.fault)));
            }
        }
        return all;
    }
}

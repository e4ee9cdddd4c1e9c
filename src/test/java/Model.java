import java.util.ArrayList;
import java.util.List;

/**
 * A second reading of the document, rule by rule, for random runs to be held against. It keeps one list of
 * all that waits and one of all items of all channels, each in the order in which they came, and looks
 * everything up anew.
 */
final class Model {
    private record Wait(int thread, int channel, char role, int value, double x, Double end) {
    }

    private record In(int channel, int value, double rank, double due, double since) {
    }

    private final int[] kind = {-1, -1, -1, -1, -1, -1, -1, -1};
    private final int[] size = new int[8];
    private final boolean[] broken = new boolean[8];
    private final int[] passed = new int[8];
    private final double[] staySum = new double[8];
    private final int[] stays = new int[8];
    private final boolean[] flag = new boolean[6];
    private final int[] outcome = {-1, -1, -1, -1, -1, -1};
    private final Integer[] got = new Integer[6];
    private final List<Wait> waits = new ArrayList<>();
    private final List<In> ins = new ArrayList<>();
    private double time = 0.0;

    String answer(String name, double[] a) {
        int p = (int) (a.length > 0 ? a[0] : 0);
        int q = (int) (a.length > 1 ? a[1] : 0);
        switch (name) {
            case "make": return make(p, q, (int) a[2]);
            case "give": case "take": case "swap": case "arrive": return act(name, p, q, a);
            case "reset": return reset(p);
            case "interrupt": return interrupt(p);
            case "tick": return tick(a[0]);
            case "got": return !thread(p) ? iae() : got[p] == null ? nse() : "" + got[p];
            case "thread": return !thread(p) || q < 0 || q > 3 ? iae() : "" + ofThread(p, q);
            case "channel": return !channel(p) || q < 0 || q > 10 ? iae() : kind[p] < 0 ? nse() : "" + ofChannel(p, q);
            case "item": return item(p, q);
            case "stay": return !channel(p) ? iae() : kind[p] < 0 ? nse()
                    : stays[p] == 0 ? "throws.ArithmeticException" : "" + staySum[p] / stays[p];
            default: return "" + time;
        }
    }

    private static String iae() {
        return "throws.IllegalArgumentException";
    }

    private static String nse() {
        return "throws.NoSuchElementException";
    }

    private static boolean thread(int t) {
        return 0 <= t && t <= 5;
    }

    private static boolean channel(int c) {
        return 0 <= c && c <= 7;
    }

    private String make(int c, int k, int a) {
        int low = k == 0 ? 1 : k == 6 ? 2 : 0;
        int high = k == 0 ? 4 : k == 6 ? 5 : 0;
        if (!channel(c) || k < 0 || k > 6 || a < low || a > high) {
            return iae();
        }
        if (kind[c] >= 0) {
            return "throws.IllegalStateException";
        }
        kind[c] = k;
        size[c] = k == 1 ? 16 : k == 3 || k == 4 ? 6 : a;
        int there = 0;
        for (int other : kind) {
            there += other >= 0 ? 1 : 0;
        }
        return "" + there;
    }

    private String act(String name, int t, int c, double[] a) {
        double limit = a[a.length - 1];
        boolean x = !name.equals("give") || Math.abs(a[3]) <= 1000.0;
        if (!thread(t) || !channel(c) || !x || !(limit >= -1.0) || !(limit <= 1000.0)) {
            return iae();
        }
        if (kind[c] < 0) {
            return nse();
        }
        if (waitOf(t) != null) {
            return "throws.IllegalStateException";
        }
        boolean fits = name.equals("swap") ? kind[c] == 5 : name.equals("arrive") ? kind[c] == 6 : kind[c] <= 4;
        if (!fits) {
            return "throws.UnsupportedOperationException";
        }
        if (broken[c]) {
            return "throws.ArithmeticException";
        }
        if (flag[t]) {
            flag[t] = false;
            outcome[t] = 3;
            if (kind[c] == 6) {
                shatter(c);
            }
            return "3";
        }
        int answer = switch (name) {
            case "give" -> give(t, c, (int) a[2], a[3], limit);
            case "take" -> take(t, c, limit);
            case "swap" -> swap(t, c, (int) a[2], limit);
            default -> arrive(t, c, limit);
        };
        outcome[t] = answer;
        return "" + answer;
    }

    private int give(int t, int c, int value, double x, double limit) {
        double due = kind[c] == 4 ? time + Math.max(x, 0.0) : x;
        boolean atOnce = kind[c] == 2 ? first(c, 't') != null : items(c).size() < size[c];
        if (first(c, 'g') != null || !atOnce) {
            return pause(t, c, 'g', value, due, limit);
        }
        if (kind[c] == 2) {
            Wait taker = first(c, 't');
            got[taker.thread] = value;
            stays[c]++;
            wake(taker, 1);
        } else {
            ins.add(new In(c, value, x, due, time));
        }
        serve(c);
        return 1;
    }

    private int take(int t, int c, double limit) {
        boolean atOnce = kind[c] == 2 ? first(c, 'g') != null : ready(c);
        if (first(c, 't') != null || !atOnce) {
            return pause(t, c, 't', 0, 0.0, limit);
        }
        if (kind[c] == 2) {
            Wait giver = first(c, 'g');
            got[t] = giver.value;
            stays[c]++;
            wake(giver, 1);
        } else {
            takeFirst(t, c);
        }
        serve(c);
        return 1;
    }

    private int swap(int t, int c, int value, double limit) {
        Wait other = first(c, 'w');
        if (other == null) {
            return pause(t, c, 'w', value, 0.0, limit);
        }
        wake(other, 1);
        got[other.thread] = value;
        got[t] = other.value;
        return 1;
    }

    private int arrive(int t, int c, double limit) {
        List<Wait> there = waitsAt(c);
        if (there.size() == size[c] - 1) {
            there.forEach(w -> wake(w, 1));
            passed[c]++;
            return 1;
        }
        got[t] = there.size();
        if (limit == 0.0) {
            shatter(c);
        }
        return pause(t, c, 'w', 0, 0.0, limit);
    }

    private String reset(int c) {
        if (!channel(c)) {
            return iae();
        }
        if (kind[c] != 6) {
            return kind[c] < 0 ? nse() : "throws.UnsupportedOperationException";
        }
        int count = waitsAt(c).size();
        shatter(c);
        broken[c] = false;
        return "" + count;
    }

    private String interrupt(int t) {
        if (!thread(t)) {
            return iae();
        }
        Wait w = waitOf(t);
        if (w == null) {
            flag[t] = true;
        } else {
            cut(w, 3);
        }
        return "" + outcome[t];
    }

    private String tick(double by) {
        if (!(by >= 0.0 && by <= 1000.0)) {
            return iae();
        }
        double goal = time + by;
        int late = 0;
        while (true) {
            double least = Double.POSITIVE_INFINITY;
            for (Wait w : waits) {
                least = w.end == null ? least : Math.min(least, w.end);
            }
            for (int c = 0; c < 8; c++) {
                boolean counts = kind[c] == 4 && first(c, 't') != null && !items(c).isEmpty();
                if (counts && items(c).get(0).due > time) {
                    least = Math.min(least, items(c).get(0).due);
                }
            }
            if (least > goal) {
                break;
            }
            time = Math.max(time, least);
            for (int c = 0; c < 8; c++) {
                if (kind[c] == 4) {
                    serve(c);
                }
            }
            for (int t = 0; t < 6; t++) {
                Wait w = waitOf(t);
                if (w != null && w.end != null && w.end <= time) {
                    late++;
                    cut(w, 2);
                }
            }
        }
        time = goal;
        return "" + late;
    }

    private String item(int c, int i) {
        if (!channel(c)) {
            return iae();
        }
        if (kind[c] < 0) {
            return nse();
        }
        List<In> all = items(c);
        return i < 0 || i >= all.size() ? "throws.IndexOutOfBoundsException" : "" + all.get(i).value;
    }

    private int ofThread(int t, int what) {
        Wait w = waitOf(t);
        return switch (what) {
            case 0 -> w == null ? 0 : 1;
            case 1 -> outcome[t];
            case 2 -> flag[t] ? 1 : 0;
            default -> w == null ? -1 : w.channel;
        };
    }

    private int ofChannel(int c, int what) {
        List<Wait> there = waitsAt(c);
        return switch (what) {
            case 0 -> kind[c];
            case 1 -> items(c).size();
            case 2 -> there.size();
            case 3 -> (kind[c] == 6 ? !broken[c] : ready(c)) ? 1 : 0;
            case 4 -> passed[c];
            default -> what - 5 < there.size() ? there.get(what - 5).thread : -1;
        };
    }

    private int pause(int t, int c, char role, int value, double x, double limit) {
        if (limit == 0.0) {
            return 2;
        }
        waits.add(new Wait(t, c, role, value, x, limit > 0.0 ? time + limit : null));
        return 0;
    }

    private void serve(int c) {
        while (kind[c] <= 4) {
            Wait taker = first(c, 't');
            Wait giver = first(c, 'g');
            if (taker != null && ready(c)) {
                takeFirst(taker.thread, c);
                wake(taker, 1);
            } else if (giver != null && kind[c] != 2 && items(c).size() < size[c]) {
                ins.add(new In(c, giver.value, giver.x, giver.x, time));
                wake(giver, 1);
            } else if (kind[c] == 2 && giver != null && taker != null) {
                got[taker.thread] = giver.value;
                stays[c]++;
                wake(taker, 1);
                wake(giver, 1);
            } else {
                return;
            }
        }
    }

    private void takeFirst(int t, int c) {
        In it = items(c).get(0);
        ins.remove(it);
        got[t] = it.value;
        staySum[c] += time - it.since;
        stays[c]++;
    }

    private void wake(Wait w, int result) {
        waits.remove(w);
        outcome[w.thread] = result;
    }

    private void cut(Wait w, int result) {
        wake(w, result);
        if (kind[w.channel] == 6) {
            shatter(w.channel);
        }
        serve(w.channel);
    }

    private void shatter(int c) {
        broken[c] = true;
        waitsAt(c).forEach(w -> wake(w, 4));
    }

    private boolean ready(int c) {
        List<In> all = items(c);
        return !all.isEmpty() && (kind[c] != 4 || all.get(0).due <= time);
    }

    /** A stable sort of what came in order. */
    private List<In> items(int c) {
        List<In> all = new ArrayList<>(ins.stream().filter(it -> it.channel == c).toList());
        if (kind[c] == 3) {
            all.sort((u, v) -> u.rank > v.rank ? -1 : u.rank < v.rank ? 1 : 0);
        }
        if (kind[c] == 4) {
            all.sort((u, v) -> u.due < v.due ? -1 : u.due > v.due ? 1 : 0);
        }
        return all;
    }

    private List<Wait> waitsAt(int c) {
        return waits.stream().filter(w -> w.channel == c).toList();
    }

    private Wait first(int c, char role) {
        return waits.stream().filter(w -> w.channel == c && w.role == role).findFirst().orElse(null);
    }

    private Wait waitOf(int t) {
        return waits.stream().filter(w -> w.thread == t).findFirst().orElse(null);
    }
}

import java.util.ArrayList;
import java.util.NoSuchElementException;

/**
 * Channels between threads: bounded and linked buffers, hand to hand, by rank, by delay,
 * exchanges of two, and barriers that break; with limits of time and interruption.
 */
public final class ChannelHall {
    private static final int THREADS = 6;
    private static final int CHANNELS = 8;

    private static final int BUFFER = 0;
    private static final int LINKED = 1;
    private static final int DIRECT = 2;
    private static final int RANKED = 3;
    private static final int DELAYED = 4;
    private static final int EXCHANGE = 5;
    private static final int BARRIER = 6;

    private static final int LINKED_ROOM = 16;
    private static final int SORTED_ROOM = 6;

    private static final int UNTRIED = -1;
    private static final int WAITING = 0;
    private static final int DONE = 1;
    private static final int LATE = 2;
    private static final int INTERRUPTED = 3;
    private static final int BROKEN = 4;

    private static final int FIRST_WAITER = 5;

    private final Worker[] workers = new Worker[THREADS];
    private final Channel[] channels = new Channel[CHANNELS];
    private int made = 0;
    private double now = 0.0;

    public ChannelHall() {
        for (int i = 0; i < THREADS; i++) {
            workers[i] = new Worker(i);
        }
    }

    public int make(int channel, int kind, int a) throws IllegalArgumentException, IllegalStateException {
        require(isChannel(channel) && isSize(kind, a));
        if (channels[channel] != null) {
            throw new IllegalStateException();
        }
        channels[channel] = new Channel(channel, kind, a);
        made++;
        return made;
    }

    public int give(int thread, int channel, int value, double x, double limit)
            throws IllegalArgumentException, NoSuchElementException, IllegalStateException,
            UnsupportedOperationException {
        require(isThread(thread) && isChannel(channel) && x >= -1000.0 && x <= 1000.0 && isLimit(limit));
        Channel place = presentChannel(channel);
        Worker caller = runningWorker(thread);
        requireKind(place.holdsItems());
        if (caller.losesFlag()) {
            return caller.endWith(INTERRUPTED);
        }
        double key = place.keyOf(x, now);
        if (!place.acceptsAtOnce()) {
            caller.offer(value, key);
            return startWait(caller, place, Role.GIVER, limit);
        }
        place.accept(value, key, now);
        place.serve(now);
        return caller.endWith(DONE);
    }

    public int take(int thread, int channel, double limit)
            throws IllegalArgumentException, NoSuchElementException, IllegalStateException,
            UnsupportedOperationException {
        require(isThread(thread) && isChannel(channel) && isLimit(limit));
        Channel place = presentChannel(channel);
        Worker caller = runningWorker(thread);
        requireKind(place.holdsItems());
        if (caller.losesFlag()) {
            return caller.endWith(INTERRUPTED);
        }
        if (!place.yieldsAtOnce(now)) {
            return startWait(caller, place, Role.TAKER, limit);
        }
        place.yieldTo(caller, now);
        place.serve(now);
        return caller.endWith(DONE);
    }

    public int swap(int thread, int channel, int value, double limit)
            throws IllegalArgumentException, NoSuchElementException, IllegalStateException,
            UnsupportedOperationException {
        require(isThread(thread) && isChannel(channel) && isLimit(limit));
        Channel place = presentChannel(channel);
        Worker caller = runningWorker(thread);
        requireKind(place.kind == EXCHANGE);
        if (caller.losesFlag()) {
            return caller.endWith(INTERRUPTED);
        }
        Worker other = place.firstWaiter(Role.PARTNER);
        if (other == null) {
            caller.offer(value, 0.0);
            return startWait(caller, place, Role.PARTNER, limit);
        }
        caller.receive(other.offeredValue);
        other.receive(value);
        place.release(other, DONE);
        return caller.endWith(DONE);
    }

    public int arrive(int thread, int channel, double limit)
            throws IllegalArgumentException, NoSuchElementException, IllegalStateException,
            UnsupportedOperationException, ArithmeticException {
        require(isThread(thread) && isChannel(channel) && isLimit(limit));
        Channel place = presentChannel(channel);
        Worker caller = runningWorker(thread);
        requireKind(place.kind == BARRIER);
        if (place.broken) {
            throw new ArithmeticException();
        }
        if (caller.losesFlag()) {
            place.breakUp();
            return caller.endWith(INTERRUPTED);
        }
        int before = place.waiters.size();
        if (before == place.parties - 1) {
            place.releaseAll(DONE);
            place.passed++;
            return caller.endWith(DONE);
        }
        caller.receive(before);
        int answer = startWait(caller, place, Role.PARTNER, limit);
        if (answer == LATE) {
            place.breakUp();
        }
        return answer;
    }

    public int reset(int channel)
            throws IllegalArgumentException, NoSuchElementException, UnsupportedOperationException {
        require(isChannel(channel));
        Channel place = presentChannel(channel);
        requireKind(place.kind == BARRIER);
        int count = place.waiters.size();
        place.releaseAll(BROKEN);
        place.broken = false;
        return count;
    }

    public int interrupt(int thread) throws IllegalArgumentException {
        require(isThread(thread));
        Worker worker = workers[thread];
        if (worker.place == null) {
            worker.flagged = true;
        } else {
            giveUp(worker, INTERRUPTED);
        }
        return worker.outcome;
    }

    public int tick(double by) throws IllegalArgumentException {
        require(by >= 0.0 && by <= 1000.0);
        double goal = now + by;
        int late = 0;
        // Every round frees one waiter at least and none comes anew, so THREADS rounds are enough.
        for (int round = 0; round < THREADS; round++) {
            double next = nextMoment(goal);
            if (next > goal) {
                break;
            }
            now = next > now ? next : now;
            serveDelayed();
            late += endLateWaits();
        }
        now = goal;
        return late;
    }

    public int got(int thread) throws IllegalArgumentException, NoSuchElementException {
        require(isThread(thread));
        Worker worker = workers[thread];
        if (!worker.hasGot) {
            throw new NoSuchElementException();
        }
        return worker.gotValue;
    }

    public int thread(int thread, int what) throws IllegalArgumentException {
        require(isThread(thread) && what >= 0 && what <= 3);
        Worker worker = workers[thread];
        switch (what) {
            case 0:
                return worker.place != null ? 1 : 0;
            case 1:
                return worker.outcome;
            case 2:
                return worker.flagged ? 1 : 0;
            default:
                return worker.place != null ? worker.place.number : -1;
        }
    }

    public int channel(int channel, int what) throws IllegalArgumentException, NoSuchElementException {
        require(isChannel(channel) && what >= 0 && what < FIRST_WAITER + THREADS);
        Channel place = presentChannel(channel);
        switch (what) {
            case 0:
                return place.kind;
            case 1:
                return place.items.size();
            case 2:
                return place.waiters.size();
            case 3:
                return place.isOpen(now) ? 1 : 0;
            case 4:
                return place.passed;
            default:
                return place.waiterNumber(what - FIRST_WAITER);
        }
    }

    public int item(int channel, int i)
            throws IllegalArgumentException, NoSuchElementException, IndexOutOfBoundsException {
        require(isChannel(channel));
        Channel place = presentChannel(channel);
        if (i < 0 || i >= place.items.size()) {
            throw new IndexOutOfBoundsException();
        }
        return place.items.get(i).value;
    }

    public double stay(int channel) throws IllegalArgumentException, NoSuchElementException, ArithmeticException {
        require(isChannel(channel));
        Channel place = presentChannel(channel);
        if (place.stays == 0) {
            throw new ArithmeticException();
        }
        return place.staySum / place.stays;
    }

    public double time() {
        return now;
    }

    private static void require(boolean inRange) {
        if (!inRange) {
            throw new IllegalArgumentException();
        }
    }

    private static void requireKind(boolean fits) {
        if (!fits) {
            throw new UnsupportedOperationException();
        }
    }

    private static boolean isThread(int number) {
        return number >= 0 && number < THREADS;
    }

    private static boolean isChannel(int number) {
        return number >= 0 && number < CHANNELS;
    }

    private static boolean isLimit(double limit) {
        return limit >= -1.0 && limit <= 1000.0;
    }

    private static boolean isSize(int kind, int a) {
        switch (kind) {
            case BUFFER:
                return a >= 1 && a <= 4;
            case BARRIER:
                return a >= 2 && a <= 5;
            default:
                return kind > BUFFER && kind < BARRIER && a == 0;
        }
    }

    private Channel presentChannel(int number) {
        Channel place = channels[number];
        if (place == null) {
            throw new NoSuchElementException();
        }
        return place;
    }

    private Worker runningWorker(int number) {
        Worker worker = workers[number];
        if (worker.place != null) {
            throw new IllegalStateException();
        }
        return worker;
    }

    private int startWait(Worker caller, Channel place, Role role, double limit) {
        if (limit == 0.0) {
            return caller.endWith(LATE);
        }
        caller.place = place;
        caller.role = role;
        caller.hasEnd = limit > 0.0;
        caller.end = now + limit;
        place.waiters.add(caller);
        return caller.endWith(WAITING);
    }

    private void giveUp(Worker worker, int outcome) {
        Channel place = worker.place;
        if (place == null) {
            return;
        }
        place.release(worker, outcome);
        if (place.kind == BARRIER) {
            place.breakUp();
        }
        place.serve(now);
    }

    /** The next time at which a tick has something to do, or one above the goal if there is none up to it. */
    private double nextMoment(double goal) {
        double least = goal + 1.0;
        for (Worker worker : workers) {
            if (worker.place != null && worker.hasEnd && worker.end < least) {
                least = worker.end;
            }
        }
        for (Channel place : channels) {
            if (place != null) {
                least = place.earlierDue(now, least);
            }
        }
        return least;
    }

    private void serveDelayed() {
        for (Channel place : channels) {
            if (place != null && place.kind == DELAYED) {
                place.serve(now);
            }
        }
    }

    private int endLateWaits() {
        int late = 0;
        for (Worker worker : workers) {
            // Looked at one by one: a barrier that breaks frees its later waiters before they are LATE.
            if (worker.place != null && worker.hasEnd && worker.end <= now) {
                giveUp(worker, LATE);
                late++;
            }
        }
        return late;
    }

    private enum Role { GIVER, TAKER, PARTNER }

    /** An ITEM; its key is its DUE time or its RANK turned round, so that one rising order serves all kinds. */
    private static final class Item {
        final int value;
        final double key;
        final double since;

        Item(int value, double key, double since) {
            this.value = value;
            this.key = key;
            this.since = since;
        }
    }

    /** A THREAD; it is BLOCKED exactly while it has a place. */
    private static final class Worker {
        final int number;
        boolean flagged = false;
        int outcome = UNTRIED;
        boolean hasGot = false;
        int gotValue = 0;
        Channel place = null;
        Role role = Role.PARTNER;
        int offeredValue = 0;
        double offeredKey = 0.0;
        boolean hasEnd = false;
        double end = 0.0;

        Worker(int number) {
            this.number = number;
        }

        boolean losesFlag() {
            boolean was = flagged;
            flagged = false;
            return was;
        }

        int endWith(int result) {
            outcome = result;
            return result;
        }

        void receive(int value) {
            hasGot = true;
            gotValue = value;
        }

        void offer(int value, double key) {
            offeredValue = value;
            offeredKey = key;
        }
    }

    /** A CHANNEL; its items stand by rising keys, those with the same key as they came. */
    private static final class Channel {
        final int number;
        final int kind;
        final int room;
        final int parties;
        final ArrayList<Item> items = new ArrayList<Item>();
        final ArrayList<Worker> waiters = new ArrayList<Worker>();
        boolean broken = false;
        int passed = 0;
        double staySum = 0.0;
        int stays = 0;

        Channel(int number, int kind, int a) {
            this.number = number;
            this.kind = kind;
            this.room = roomOf(kind, a);
            this.parties = kind == BARRIER ? a : 0;
        }

        private static int roomOf(int kind, int a) {
            switch (kind) {
                case BUFFER:
                    return a;
                case LINKED:
                    return LINKED_ROOM;
                case RANKED:
                case DELAYED:
                    return SORTED_ROOM;
                default:
                    return 0;
            }
        }

        boolean holdsItems() {
            return kind <= DELAYED;
        }

        double keyOf(double x, double now) {
            switch (kind) {
                case RANKED:
                    return -x;
                case DELAYED:
                    return now + (x < 0.0 ? 0.0 : x);
                default:
                    return 0.0;
            }
        }

        boolean isReady(double now) {
            if (items.isEmpty()) {
                return false;
            }
            return kind != DELAYED || items.get(0).key <= now;
        }

        boolean isOpen(double now) {
            return kind == BARRIER ? !broken : isReady(now);
        }

        /** The DUE time above now that takers wait for here, if there is one below the least so far. */
        double earlierDue(double now, double least) {
            if (kind != DELAYED || items.isEmpty() || firstWaiter(Role.TAKER) == null) {
                return least;
            }
            double due = items.get(0).key;
            return due > now && due < least ? due : least;
        }

        Worker firstWaiter(Role role) {
            for (int i = 0; i < waiters.size(); i++) {
                if (waiters.get(i).role == role) {
                    return waiters.get(i);
                }
            }
            return null;
        }

        int waiterNumber(int i) {
            return i >= 0 && i < waiters.size() ? waiters.get(i).number : -1;
        }

        boolean acceptsAtOnce() {
            if (firstWaiter(Role.GIVER) != null) {
                return false;
            }
            return kind == DIRECT ? firstWaiter(Role.TAKER) != null : items.size() < room;
        }

        void accept(int value, double key, double now) {
            Worker taker = firstWaiter(Role.TAKER);
            if (kind != DIRECT) {
                put(value, key, now);
            } else if (taker != null) {
                handOver(value, taker);
                release(taker, DONE);
            }
        }

        boolean yieldsAtOnce(double now) {
            if (firstWaiter(Role.TAKER) != null) {
                return false;
            }
            return kind == DIRECT ? firstWaiter(Role.GIVER) != null : isReady(now);
        }

        void yieldTo(Worker taker, double now) {
            Worker giver = firstWaiter(Role.GIVER);
            if (kind != DIRECT) {
                handFirst(taker, now);
            } else if (giver != null) {
                handOver(giver.offeredValue, taker);
                release(giver, DONE);
            }
        }

        void serve(double now) {
            // Every step frees a waiter, so no run of steps is longer than there are threads.
            for (int step = 0; step < THREADS; step++) {
                if (!serveOnce(now)) {
                    return;
                }
            }
        }

        private boolean serveOnce(double now) {
            Worker taker = firstWaiter(Role.TAKER);
            Worker giver = firstWaiter(Role.GIVER);
            if (taker != null && isReady(now)) {
                handFirst(taker, now);
                release(taker, DONE);
                return true;
            }
            if (giver != null && items.size() < room) {
                put(giver.offeredValue, giver.offeredKey, now);
                release(giver, DONE);
                return true;
            }
            if (kind == DIRECT && giver != null && taker != null) {
                handOver(giver.offeredValue, taker);
                release(giver, DONE);
                release(taker, DONE);
                return true;
            }
            return false;
        }

        private void put(int value, double key, double now) {
            int at = items.size();
            while (at > 0 && items.get(at - 1).key > key) {
                at--;
            }
            items.add(at, new Item(value, key, now));
        }

        private void handFirst(Worker taker, double now) {
            if (items.isEmpty()) {
                return;
            }
            Item first = items.remove(0);
            taker.receive(first.value);
            addStay(now - first.since);
        }

        private void handOver(int value, Worker taker) {
            taker.receive(value);
            addStay(0.0);
        }

        private void addStay(double length) {
            staySum += length;
            stays++;
        }

        void release(Worker worker, int outcome) {
            for (int i = 0; i < waiters.size(); i++) {
                if (waiters.get(i) == worker) {
                    waiters.remove(i);
                    break;
                }
            }
            worker.place = null;
            worker.outcome = outcome;
        }

        void releaseAll(int outcome) {
            for (int i = 0; i < waiters.size(); i++) {
                waiters.get(i).place = null;
                waiters.get(i).outcome = outcome;
            }
            waiters.clear();
        }

        void breakUp() {
            broken = true;
            releaseAll(BROKEN);
        }
    }
}

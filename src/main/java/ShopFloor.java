/**
 * A shop floor: jobs of tasks on machines, the orders in which each machine works on its tasks,
 * and what can be told of them and done to them. The document ../shared/DOC.md says what each call
 * answers.
 *
 * ORDERS are one row of task numbers: the slots of a machine stand side by side in it, so that one
 * copy of a row keeps, or brings back, all orders at once. All rows are made in constructors.
 */
public final class ShopFloor {
    public static final int BAD = -1, NOT = -2, FULL = -3, RING = -4, STATE = -5, LONG = -7;

    private static final int NONE = -1;
    private static final int MOST_JOBS = 6;
    private static final int MOST_PLACES = 6;
    private static final int MOST_TASKS = 24;
    private static final int MACHINES = 5;
    private static final int TAPE_BYTES = 140;
    private static final int MOST_KEPT = 9;
    private static final int FIRST_KEPT = 4;
    private static final int MOST_CHANGES = 16;
    private static final int MOST_STEPS = 30;
    private static final int RULES = 4;
    private static final int MOST_ALONE = 6;
    private static final int MOST_WAYS = 720;
    private static final int FAULT_BASE = -100;
    private static final int LINE_END = 10;

    private final Tape tape = new Tape();
    private final Jobs jobs = new Jobs();
    private final Jobs read = new Jobs();
    private final int[] row = new int[MOST_TASKS];
    private final Times times = new Times();
    private final Times thought = new Times();
    private final Path path = new Path();
    private final Forbidden forbidden = new Forbidden();
    private final History history = new History();
    private final Dispatcher dispatcher = new Dispatcher();
    private final Alone alone = new Alone();
    private final Every every = new Every();
    private final Jobs imageJobs = new Jobs();
    private final int[] imageRow = new int[MOST_TASKS];
    private final int[] bestRow = new int[MOST_TASKS];
    private int least = NONE;
    private int stepped = 0;

    public ShopFloor() {
    }

    // ---- the shop

    public int feed(int letter) {
        if (letter < 32 || letter > 126) {
            return BAD;
        }
        if (tape.length >= TAPE_BYTES) {
            return FULL;
        }
        tape.put(letter);
        return tape.length;
    }

    public int shop() {
        int fault = tape.readInto(read);
        tape.length = 0;
        if (fault != NONE) {
            return FAULT_BASE - fault;
        }
        jobs.copyOf(read);
        jobs.orderByNumbers(row);
        startAnew();
        return jobs.tasks;
    }

    public int task(int t, int what) {
        if (noTask(t) || what < 0 || what > 4) {
            return BAD;
        }
        switch (what) {
            case 0:
                return jobs.job[t];
            case 1:
                return jobs.place[t];
            case 2:
                return jobs.machine[t];
            case 3:
                return jobs.lasts[t];
            default:
                return times.rank[t];
        }
    }

    public int order(int machine, int k) {
        if (noMachine(machine) || k < -1) {
            return BAD;
        }
        if (noShop()) {
            return STATE;
        }
        int many = jobs.tasksOn(machine);
        if (k == -1) {
            return many;
        }
        return k < many ? row[jobs.slots[machine] + k] : NOT;
    }

    public int turn(int machine, int k) {
        if (noMachine(machine) || k < 0 || k >= jobs.tasksOn(machine) - 1) {
            return BAD;
        }
        changePlaces(jobs.slots[machine] + k);
        changed();
        return spanOrRing();
    }

    // ---- starts

    public int span() {
        int refused = refusedByState();
        return refused != 0 ? refused : times.span;
    }

    public int of(int t, int what) {
        if (noTask(t) || what < 0 || what > 3) {
            return BAD;
        }
        int refused = refusedByState();
        if (refused != 0) {
            return refused;
        }
        switch (what) {
            case 0:
                return times.start[t];
            case 1:
                return times.tail[t];
            case 2:
                return times.slack[t];
            default:
                return times.slack[t] == 0 ? 1 : 0;
        }
    }

    public int way(int k) {
        if (k < -1) {
            return BAD;
        }
        int refused = refusedByState();
        if (refused != 0) {
            return refused;
        }
        if (k == -1) {
            return path.length;
        }
        return k < path.length ? path.tasks[k] : NOT;
    }

    public int block(int b) {
        if (b < -1) {
            return BAD;
        }
        int refused = refusedByState();
        if (refused != 0) {
            return refused;
        }
        if (b == -1) {
            return path.blocks;
        }
        return b < path.blocks ? path.edges[b + 1] - path.edges[b] : NOT;
    }

    // ---- moves

    public int move(int k) {
        if (k < -1) {
            return BAD;
        }
        int refused = refusedByState();
        if (refused != 0) {
            return refused;
        }
        if (k == -1) {
            return path.moves;
        }
        return k < path.moves ? pair(path.first(k), path.second(k)) : NOT;
    }

    public int brings(int k, int what) {
        if (k < 0 || what < 0 || what > 2) {
            return BAD;
        }
        int refused = refusedByState();
        if (refused != 0) {
            return refused;
        }
        if (k >= path.moves) {
            return NOT;
        }
        if (what == 0) {
            return times.atLeast(jobs, path.first(k), path.second(k));
        }
        if (what == 1) {
            return spanBehind(k);
        }
        return keptSince(k) != NONE ? 1 : 0;
    }

    public int does(int k) {
        if (k < 0) {
            return BAD;
        }
        int refused = refusedByState();
        if (refused != 0) {
            return refused;
        }
        if (k >= path.moves) {
            return NOT;
        }
        changePlaces(slotOf(path.first(k)));
        changed();
        return spanOrRing();
    }

    public int tabu(int n) {
        if (n < 0 || n > MOST_KEPT) {
            return BAD;
        }
        int old = forbidden.most;
        forbidden.most = n;
        forgetSteps();
        return old;
    }

    public int step(int n) {
        if (n < 1 || n > MOST_STEPS) {
            return BAD;
        }
        int refused = refusedByState();
        if (refused != 0) {
            return refused;
        }
        int done = 0;
        while (done < n && goOn()) {
            done++;
        }
        stepped += done;
        return done;
    }

    public int kept(int i) {
        if (i < -1) {
            return BAD;
        }
        if (i == -1) {
            return forbidden.count;
        }
        return i < forbidden.count ? forbidden.pairs[i] : NOT;
    }

    public int best(int what) {
        if (what < 0 || what > 1) {
            return BAD;
        }
        if (noShop()) {
            return STATE;
        }
        if (least == NONE) {
            return NOT;
        }
        if (what == 0) {
            return least;
        }
        copyRow(bestRow, row);
        changed();
        return spanOrRing();
    }

    // ---- other orders

    public int dispatch(int rule) {
        int span = would(rule);
        if (span < 0) {
            return span;
        }
        copyRow(dispatcher.row, row);
        changed();
        return spanOrRing();
    }

    public int would(int rule) {
        if (rule < 0 || rule >= RULES) {
            return BAD;
        }
        if (noShop()) {
            return STATE;
        }
        dispatcher.lay(jobs, rule);
        return dispatcher.span;
    }

    public int machine(int machine, int how) {
        if (noMachine(machine) || how < 0 || how > 1) {
            return BAD;
        }
        if (noShop()) {
            return STATE;
        }
        if (jobs.tasksOn(machine) == 0) {
            return NOT;
        }
        return how == 0 ? alone.atBest(jobs, machine) : alone.preempted(jobs, machine);
    }

    public int bound() {
        if (noShop()) {
            return STATE;
        }
        int greatest = jobs.longestJob();
        for (int m = 0; m < MACHINES; m++) {
            int time = alone.atBest(jobs, m);
            if (time == LONG) {
                return LONG;
            }
            greatest = Math.max(greatest, time);
        }
        return greatest;
    }

    public int all(int what) {
        if (what < 0 || what > 1) {
            return BAD;
        }
        if (noShop()) {
            return STATE;
        }
        if (!every.look(jobs, thought)) {
            return LONG;
        }
        return what == 0 ? every.whole : every.least;
    }

    public int chart(int i) {
        if (i < -1) {
            return BAD;
        }
        int refused = refusedByState();
        if (refused != 0) {
            return refused;
        }
        int width = times.span + 1;
        if (i == -1) {
            return MACHINES * width;
        }
        return width > 0 && i < MACHINES * width ? chartByte(i / width, i % width) : NOT;
    }

    // ---- changes, the image

    public int undo() {
        if (!history.goBack(row)) {
            return STATE;
        }
        settle();
        return history.now;
    }

    public int redo() {
        if (!history.goAhead(row)) {
            return STATE;
        }
        settle();
        return history.last - history.now;
    }

    public int image() {
        if (noShop()) {
            return STATE;
        }
        imageJobs.copyOf(jobs);
        copyRow(row, imageRow);
        return jobs.tasks;
    }

    public int back() {
        if (imageJobs.tasks == 0) {
            return STATE;
        }
        jobs.copyOf(imageJobs);
        copyRow(imageRow, row);
        startAnew();
        return jobs.tasks;
    }

    public int count(int what) {
        switch (what) {
            case 0:
                return jobs.jobs;
            case 1:
                return jobs.tasks;
            case 2:
                return tape.length;
            case 3:
                return history.now;
            case 4:
                return history.last - history.now;
            case 5:
                return stepped;
            default:
                return BAD;
        }
    }

    // ---- what the calls share

    private boolean noShop() {
        return jobs.tasks == 0;
    }

    private boolean noTask(int t) {
        return t < 0 || t >= jobs.tasks;
    }

    private static boolean noMachine(int m) {
        return m < 0 || m >= MACHINES;
    }

    /** STATE or RING, in the order in which the document tells refusals; 0 if neither is so. */
    private int refusedByState() {
        if (noShop()) {
            return STATE;
        }
        return times.ring ? RING : 0;
    }

    private int spanOrRing() {
        return times.ring ? RING : times.span;
    }

    private static void copyRow(int[] source, int[] target) {
        System.arraycopy(source, 0, target, 0, MOST_TASKS);
    }

    private static int pair(int a, int b) {
        return 100 * a + b;
    }

    private int slotOf(int t) {
        return jobs.slots[jobs.machine[t]] + times.rank[t];
    }

    private void changePlaces(int slot) {
        if (slot < 0 || slot + 1 >= MOST_TASKS) {
            return;
        }
        int a = row[slot];
        row[slot] = row[slot + 1];
        row[slot + 1] = a;
    }

    /** Other jobs stand here now: nothing told of those that stood here before holds on. */
    private void startAnew() {
        history.begin(row);
        forgetSteps();
        alone.forget();
        every.forget();
        settle();
    }

    private void forgetSteps() {
        forbidden.count = 0;
        least = NONE;
    }

    private void changed() {
        history.note(row);
        settle();
    }

    private void settle() {
        times.lay(jobs, row);
        if (!times.ring) {
            times.layTails(jobs);
            path.find(jobs, times);
        }
    }

    private int spanBehind(int k) {
        int slot = slotOf(path.first(k));
        changePlaces(slot);
        thought.lay(jobs, row);
        changePlaces(slot);
        return thought.span;
    }

    /** Where the k-th move stands among those kept (0: kept longest), or NONE. */
    private int keptSince(int k) {
        return forbidden.find(pair(path.first(k), path.second(k)));
    }

    /** One STEP; false if it found it HOME. */
    private boolean goOn() {
        lookForLeast();
        if (path.moves == 0) {
            return false;
        }
        int k = chosen();
        int a = path.first(k);
        int b = path.second(k);
        changePlaces(slotOf(a));
        changed();
        forbidden.keep(pair(b, a));
        lookForLeast();
        return true;
    }

    private void lookForLeast() {
        if (least == NONE || times.span < least) {
            least = times.span;
            copyRow(row, bestRow);
        }
    }

    /** The move that a STEP does; there must be one. */
    private int chosen() {
        int choice = NONE;
        int brought = 0;
        int longest = 0;
        int since = MOST_KEPT;
        for (int k = 0; k < path.moves; k++) {
            int span = spanBehind(k);
            int place = keptSince(k);
            if (place != NONE && span >= least) {
                if (place < since) {
                    since = place;
                    longest = k;
                }
            } else if (choice == NONE || span < brought) {
                choice = k;
                brought = span;
            }
        }
        return choice != NONE ? choice : longest;
    }

    private int chartByte(int machine, int tick) {
        if (tick == times.span) {
            return LINE_END;
        }
        for (int t = 0; t < jobs.tasks; t++) {
            boolean begun = times.start[t] <= tick;
            boolean over = times.start[t] + jobs.lasts[t] <= tick;
            if (jobs.machine[t] == machine && begun && !over) {
                return '0' + jobs.job[t];
            }
        }
        return '.';
    }

    /** The next order of row[from .. to - 1] by numbers; false: that was the last, the first stands again. */
    private static boolean nextOrder(int[] row, int from, int to) {
        int fall = to - 2;
        while (fall >= from && row[fall] > row[fall + 1]) {
            fall--;
        }
        if (fall >= from) {
            int other = to - 1;
            while (other > fall && row[other] < row[fall]) {
                other--;
            }
            int x = row[fall];
            row[fall] = row[other];
            row[other] = x;
        }
        int left = Math.max(fall, from - 1) + 1;
        for (int right = to - 1; left < right; right--) {
            int x = row[left];
            row[left] = row[right];
            row[right] = x;
            left++;
        }
        return fall >= from;
    }

    /** THE TAPE, and how a text on it is read. */
    private static final class Tape {
        final int[] bytes = new int[TAPE_BYTES];
        int length = 0;

        void put(int letter) {
            if (length < TAPE_BYTES) {
                bytes[length] = letter;
                length++;
            }
        }

        /** NONE if the text is a SHOP, else its FAULT (then what was read is worth nothing). */
        int readInto(Jobs jobs) {
            jobs.clear();
            int at = 0;
            int job = 0;
            int place = 0;
            for (int t = 0; t < MOST_TASKS; t++) {
                if (job >= MOST_JOBS || place >= MOST_PLACES) {
                    return at;
                }
                int begin = at;
                at = taskEnd(begin);
                if (!isTask(begin, at)) {
                    return at;
                }
                jobs.add(job, place, bytes[begin] - '0', number(begin + 2, at));
                if (at == length) {
                    jobs.finish();
                    return NONE;
                }
                if (letterAt(at) == ',') {
                    place++;
                } else if (letterAt(at) == ';') {
                    job++;
                    place = 0;
                } else {
                    return at;
                }
                at++;
            }
            return at;
        }

        /** Behind as much of a TASK as stands from there on. */
        private int taskEnd(int begin) {
            if (!isFigure(begin, '0', '4')) {
                return begin;
            }
            if (letterAt(begin + 1) != ' ') {
                return begin + 1;
            }
            if (!isFigure(begin + 2, '1', '9')) {
                return begin + 2;
            }
            return isFigure(begin + 3, '0', '9') ? begin + 4 : begin + 3;
        }

        private static boolean isTask(int begin, int end) {
            return end - begin >= 3;
        }

        private int number(int from, int to) {
            int n = 0;
            for (int i = from; i < to; i++) {
                n = 10 * n + letterAt(i) - '0';
            }
            return n;
        }

        private boolean isFigure(int at, int low, int high) {
            int letter = letterAt(at);
            return letter >= low && letter <= high;
        }

        private int letterAt(int at) {
            return at >= 0 && at < length ? bytes[at] : NONE;
        }
    }

    /** A SHOP without its ORDERS; without tasks it stands for no SHOP. */
    private static final class Jobs {
        int jobs = 0;
        int tasks = 0;
        final int[] job = new int[MOST_TASKS];
        final int[] place = new int[MOST_TASKS];
        final int[] machine = new int[MOST_TASKS];
        final int[] lasts = new int[MOST_TASKS];
        /** All that lasts ahead of a task in its job, and behind it. */
        final int[] before = new int[MOST_TASKS];
        final int[] after = new int[MOST_TASKS];
        /** Where each machine's slots begin in a row of orders; the next one's begin is their end. */
        final int[] slots = new int[MACHINES + 1];

        void clear() {
            jobs = 0;
            tasks = 0;
        }

        void add(int itsJob, int itsPlace, int itsMachine, int itsLasts) {
            if (tasks >= MOST_TASKS) {
                return;
            }
            job[tasks] = itsJob;
            place[tasks] = itsPlace;
            machine[tasks] = itsMachine;
            lasts[tasks] = itsLasts;
            tasks++;
            jobs = itsJob + 1;
        }

        void finish() {
            for (int t = 0; t < tasks; t++) {
                int p = jobAhead(t);
                before[t] = p == NONE ? 0 : before[p] + lasts[p];
            }
            for (int t = tasks - 1; t >= 0; t--) {
                int n = jobNext(t);
                after[t] = n == NONE ? 0 : after[n] + lasts[n];
            }
            slots[0] = 0;
            for (int m = 0; m < MACHINES; m++) {
                int many = 0;
                for (int t = 0; t < tasks; t++) {
                    many += machine[t] == m ? 1 : 0;
                }
                slots[m + 1] = slots[m] + many;
            }
        }

        void copyOf(Jobs other) {
            jobs = other.jobs;
            tasks = other.tasks;
            copyRow(other.job, job);
            copyRow(other.place, place);
            copyRow(other.machine, machine);
            copyRow(other.lasts, lasts);
            copyRow(other.before, before);
            copyRow(other.after, after);
            System.arraycopy(other.slots, 0, slots, 0, MACHINES + 1);
        }

        void orderByNumbers(int[] row) {
            int slot = 0;
            for (int m = 0; m < MACHINES; m++) {
                for (int t = 0; t < tasks; t++) {
                    if (machine[t] == m) {
                        row[slot] = t;
                        slot++;
                    }
                }
            }
        }

        int tasksOn(int m) {
            return slots[m + 1] - slots[m];
        }

        int jobAhead(int t) {
            return place[t] > 0 ? t - 1 : NONE;
        }

        int jobNext(int t) {
            return t + 1 < tasks && job[t + 1] == job[t] ? t + 1 : NONE;
        }

        int longestJob() {
            int longest = 0;
            for (int t = 0; t < tasks; t++) {
                longest = Math.max(longest, before[t] + lasts[t]);
            }
            return longest;
        }
    }

    /** Who waits for whom by a row of orders, and the starts and tails that come of it. */
    private static final class Times {
        final int[] rank = new int[MOST_TASKS];
        final int[] ahead = new int[MOST_TASKS];
        final int[] next = new int[MOST_TASKS];
        final int[] start = new int[MOST_TASKS];
        final int[] tail = new int[MOST_TASKS];
        final int[] slack = new int[MOST_TASKS];
        final int[] waits = new int[MOST_TASKS];
        /** The tasks, each behind all that it waits for. */
        final int[] queue = new int[MOST_TASKS];
        int queued = 0;
        int span = 0;
        boolean ring = false;

        void lay(Jobs jobs, int[] row) {
            link(jobs, row);
            queueFree(jobs);
            span = 0;
            ring = false;
            for (int i = 0; i < jobs.tasks; i++) {
                if (i >= queued) {
                    ring = true;
                    return;
                }
                int t = queue[i];
                int end = start[t] + jobs.lasts[t];
                span = Math.max(span, end);
                release(jobs.jobNext(t), end);
                release(next[t], end);
            }
        }

        private void link(Jobs jobs, int[] row) {
            for (int m = 0; m < MACHINES; m++) {
                int from = jobs.slots[m];
                int to = jobs.slots[m + 1];
                for (int slot = from; slot < to; slot++) {
                    int t = row[slot];
                    rank[t] = slot - from;
                    ahead[t] = slot > from ? row[slot - 1] : NONE;
                    next[t] = slot + 1 < to ? row[slot + 1] : NONE;
                }
            }
        }

        private void queueFree(Jobs jobs) {
            queued = 0;
            for (int t = 0; t < jobs.tasks; t++) {
                start[t] = 0;
                waits[t] = (jobs.jobAhead(t) != NONE ? 1 : 0) + (ahead[t] != NONE ? 1 : 0);
                if (waits[t] == 0) {
                    queue[queued] = t;
                    queued++;
                }
            }
        }

        private void release(int t, int end) {
            if (t == NONE) {
                return;
            }
            start[t] = Math.max(start[t], end);
            waits[t]--;
            if (waits[t] == 0 && queued < MOST_TASKS) {
                queue[queued] = t;
                queued++;
            }
        }

        /** Only where lay() found no ring: the queue holds all tasks then. */
        void layTails(Jobs jobs) {
            for (int i = jobs.tasks - 1; i >= 0; i--) {
                int t = queue[i];
                tail[t] = Math.max(toCome(jobs, jobs.jobNext(t)), toCome(jobs, next[t]));
                slack[t] = span - start[t] - jobs.lasts[t] - tail[t];
            }
        }

        private int toCome(Jobs jobs, int t) {
            return t == NONE ? 0 : jobs.lasts[t] + tail[t];
        }

        private int endOf(Jobs jobs, int t) {
            return t == NONE ? 0 : start[t] + jobs.lasts[t];
        }

        int atLeast(Jobs jobs, int a, int b) {
            int startB = Math.max(endOf(jobs, jobs.jobAhead(b)), endOf(jobs, ahead[a]));
            int startA = Math.max(startB + jobs.lasts[b], endOf(jobs, jobs.jobAhead(a)));
            int tailA = Math.max(toCome(jobs, jobs.jobNext(a)), toCome(jobs, next[b]));
            int tailB = Math.max(toCome(jobs, jobs.jobNext(b)), jobs.lasts[a] + tailA);
            return Math.max(startA + jobs.lasts[a] + tailA, startB + jobs.lasts[b] + tailB);
        }
    }

    /** A LONGEST WAY, its blocks and the moves on it. */
    private static final class Path {
        final int[] tasks = new int[MOST_TASKS];
        int length = 0;
        /** Block b goes from edges[b] on the way to ahead of edges[b + 1]. */
        final int[] edges = new int[MOST_TASKS + 1];
        int blocks = 0;
        /** Where on the way the first of the two that change places stands. */
        final int[] movesAt = new int[MOST_TASKS];
        int moves = 0;

        void find(Jobs jobs, Times times) {
            walk(jobs, times);
            cutBlocks(jobs);
            findMoves(jobs);
        }

        int first(int k) {
            return tasks[movesAt[k]];
        }

        int second(int k) {
            return tasks[movesAt[k] + 1];
        }

        private void walk(Jobs jobs, Times times) {
            length = 0;
            int t = beginning(jobs, times);
            while (t != NONE && length < MOST_TASKS) {
                tasks[length] = t;
                length++;
                int end = times.start[t] + jobs.lasts[t];
                int byJob = goesOn(times, jobs.jobNext(t), end);
                int byOrder = goesOn(times, times.next[t], end);
                t = byJob == NONE || byOrder == NONE ? Math.max(byJob, byOrder) : Math.min(byJob, byOrder);
            }
        }

        private static int beginning(Jobs jobs, Times times) {
            for (int t = 0; t < jobs.tasks; t++) {
                if (times.start[t] == 0 && times.slack[t] == 0) {
                    return t;
                }
            }
            return NONE;
        }

        /** t, if the way may go on with it at that end, else NONE. */
        private static int goesOn(Times times, int t, int end) {
            if (t == NONE || times.start[t] != end || times.slack[t] != 0) {
                return NONE;
            }
            return t;
        }

        private void cutBlocks(Jobs jobs) {
            blocks = 0;
            for (int i = 0; i < length; i++) {
                if (i == 0 || jobs.machine[tasks[i]] != jobs.machine[tasks[i - 1]]) {
                    edges[blocks] = i;
                    blocks++;
                }
            }
            edges[blocks] = length;
        }

        private void findMoves(Jobs jobs) {
            moves = 0;
            if (blocks < 2) {
                return;
            }
            for (int b = 0; b < blocks; b++) {
                int from = edges[b];
                int to = edges[b + 1];
                if (b > 0) {
                    addMove(jobs, from, to);
                }
                boolean sameAsFirst = b > 0 && to - from == 2;
                if (b < blocks - 1 && to - 2 >= from && !sameAsFirst) {
                    addMove(jobs, to - 2, to);
                }
            }
        }

        private void addMove(Jobs jobs, int at, int to) {
            if (at + 1 < to && jobs.job[tasks[at]] != jobs.job[tasks[at + 1]]) {
                movesAt[moves] = at;
                moves++;
            }
        }
    }

    /** What TABU keeps, the one kept longest first. */
    private static final class Forbidden {
        final int[] pairs = new int[MOST_KEPT];
        int count = 0;
        int most = FIRST_KEPT;

        int find(int pair) {
            for (int i = 0; i < count; i++) {
                if (pairs[i] == pair) {
                    return i;
                }
            }
            return NONE;
        }

        void keep(int pair) {
            if (most == 0) {
                return;
            }
            int old = find(pair);
            if (old != NONE) {
                takeOff(old);
            } else if (count >= most) {
                takeOff(0);
            }
            pairs[count] = pair;
            count++;
        }

        private void takeOff(int place) {
            for (int i = place; i + 1 < count; i++) {
                pairs[i] = pairs[i + 1];
            }
            count--;
        }
    }

    /** The orders as they were ahead of each change that is kept, and as they are, and were behind. */
    private static final class History {
        final int[][] rows = new int[MOST_CHANGES + 1][MOST_TASKS];
        int now = 0;
        int last = 0;

        void begin(int[] row) {
            now = 0;
            last = 0;
            copyRow(row, rows[0]);
        }

        void note(int[] row) {
            if (now >= MOST_CHANGES) {
                for (int i = 0; i < MOST_CHANGES; i++) {
                    copyRow(rows[i + 1], rows[i]);
                }
                now = MOST_CHANGES - 1;
            }
            now++;
            last = now;
            copyRow(row, rows[now]);
        }

        boolean goBack(int[] row) {
            if (now <= 0) {
                return false;
            }
            now--;
            copyRow(rows[now], row);
            return true;
        }

        boolean goAhead(int[] row) {
            if (now >= last) {
                return false;
            }
            now++;
            copyRow(rows[now], row);
            return true;
        }
    }

    /** DISPATCHED orders, on a row of their own until they are wanted. */
    private static final class Dispatcher {
        final int[] row = new int[MOST_TASKS];
        final int[] put = new int[MACHINES];
        final int[] machineFree = new int[MACHINES];
        final int[] jobFree = new int[MOST_JOBS];
        final boolean[] isPut = new boolean[MOST_TASKS];
        int span = 0;

        void lay(Jobs jobs, int rule) {
            clear();
            for (int i = 0; i < jobs.tasks; i++) {
                int t = choose(jobs, rule);
                if (t == NONE) {
                    return;
                }
                putLast(jobs, t);
            }
        }

        private void clear() {
            span = 0;
            for (int m = 0; m < MACHINES; m++) {
                put[m] = 0;
                machineFree[m] = 0;
            }
            for (int j = 0; j < MOST_JOBS; j++) {
                jobFree[j] = 0;
            }
            for (int t = 0; t < MOST_TASKS; t++) {
                isPut[t] = false;
            }
        }

        private int choose(Jobs jobs, int rule) {
            int choice = NONE;
            int soonest = 0;
            int leastKey = 0;
            for (int t = 0; t < jobs.tasks; t++) {
                if (!isNext(jobs, t)) {
                    continue;
                }
                int start = startOf(jobs, t);
                int key = key(jobs, rule, t);
                if (choice == NONE || start < soonest || start == soonest && key < leastKey) {
                    choice = t;
                    soonest = start;
                    leastKey = key;
                }
            }
            return choice;
        }

        private boolean isNext(Jobs jobs, int t) {
            int p = jobs.jobAhead(t);
            return !isPut[t] && (p == NONE || isPut[p]);
        }

        private int startOf(Jobs jobs, int t) {
            return Math.max(machineFree[jobs.machine[t]], jobFree[jobs.job[t]]);
        }

        /** The least key is the rule's choice. */
        private static int key(Jobs jobs, int rule, int t) {
            switch (rule) {
                case 0:
                    return jobs.lasts[t];
                case 1:
                    return -jobs.lasts[t];
                case 2:
                    return -(jobs.lasts[t] + jobs.after[t]);
                default:
                    return jobs.lasts[t] + jobs.after[t];
            }
        }

        private void putLast(Jobs jobs, int t) {
            int m = jobs.machine[t];
            int end = startOf(jobs, t) + jobs.lasts[t];
            row[jobs.slots[m] + put[m]] = t;
            put[m]++;
            isPut[t] = true;
            machineFree[m] = end;
            jobFree[jobs.job[t]] = end;
            span = Math.max(span, end);
        }
    }

    /** ONE MACHINE by itself, at best and preempted. */
    private static final class Alone {
        final int[] tasks = new int[MOST_ALONE];
        final int[] left = new int[MOST_TASKS];
        /** What atBest() found for these jobs, or NONE: it hangs on nothing that changes behind a SHOP. */
        final int[] found = {NONE, NONE, NONE, NONE, NONE};

        void forget() {
            for (int m = 0; m < MACHINES; m++) {
                found[m] = NONE;
            }
        }

        /** LONG if there are too many tasks; 0 if there is none. */
        int atBest(Jobs jobs, int m) {
            if (jobs.tasksOn(m) > MOST_ALONE) {
                return LONG;
            }
            if (found[m] == NONE) {
                found[m] = leastOfAllOrders(jobs, m);
            }
            return found[m];
        }

        private int leastOfAllOrders(Jobs jobs, int m) {
            int many = 0;
            int ways = 1;
            for (int t = 0; t < jobs.tasks; t++) {
                if (jobs.machine[t] == m && many < MOST_ALONE) {
                    tasks[many] = t;
                    many++;
                    ways *= many;
                }
            }
            int best = over(jobs, many);
            for (int w = 1; w < ways; w++) {
                nextOrder(tasks, 0, many);
                best = Math.min(best, over(jobs, many));
            }
            return best;
        }

        private int over(Jobs jobs, int many) {
            int time = 0;
            int over = 0;
            for (int i = 0; i < many; i++) {
                int t = tasks[i];
                time = Math.max(time, jobs.before[t]) + jobs.lasts[t];
                over = Math.max(over, time + jobs.after[t]);
            }
            return over;
        }

        /** Goes on by whole stretches: the choice changes just where a task ends or a HEAD is reached. */
        int preempted(Jobs jobs, int m) {
            for (int t = 0; t < jobs.tasks; t++) {
                left[t] = jobs.machine[t] == m ? jobs.lasts[t] : 0;
            }
            int now = 0;
            int over = 0;
            for (int i = 0; i <= 2 * MOST_TASKS; i++) {
                int t = workedOn(jobs, now);
                int head = nextHead(jobs, now);
                if (t != NONE) {
                    int worked = head == NONE ? left[t] : Math.min(left[t], head - now);
                    left[t] -= worked;
                    now += worked;
                    over = left[t] == 0 ? Math.max(over, now + jobs.after[t]) : over;
                } else if (head != NONE) {
                    now = head;
                } else {
                    return over;
                }
            }
            return over;
        }

        private int workedOn(Jobs jobs, int now) {
            int choice = NONE;
            for (int t = 0; t < jobs.tasks; t++) {
                if (left[t] > 0 && jobs.before[t] <= now
                        && (choice == NONE || jobs.after[t] > jobs.after[choice])) {
                    choice = t;
                }
            }
            return choice;
        }

        private int nextHead(Jobs jobs, int now) {
            int head = NONE;
            for (int t = 0; t < jobs.tasks; t++) {
                if (left[t] > 0 && jobs.before[t] > now && (head == NONE || jobs.before[t] < head)) {
                    head = jobs.before[t];
                }
            }
            return head;
        }
    }

    /** ALL ORDERS; what was found holds until there are other jobs. */
    private static final class Every {
        final int[] row = new int[MOST_TASKS];
        boolean known = false;
        int whole = 0;
        int least = 0;

        void forget() {
            known = false;
        }

        /** False if they are too many. */
        boolean look(Jobs jobs, Times times) {
            int ways = waysOf(jobs);
            if (ways > MOST_WAYS) {
                return false;
            }
            if (!known) {
                lookAtAll(jobs, times, ways);
                known = true;
            }
            return true;
        }

        /** How many ways there are; some number above MOST_WAYS, if they are more. */
        private static int waysOf(Jobs jobs) {
            int ways = 1;
            for (int m = 0; m < MACHINES; m++) {
                for (int k = 2; k <= jobs.tasksOn(m); k++) {
                    ways *= k;
                    if (ways > MOST_WAYS) {
                        return ways;
                    }
                }
            }
            return ways;
        }

        private void lookAtAll(Jobs jobs, Times times, int ways) {
            whole = 0;
            least = 0;
            jobs.orderByNumbers(row);
            for (int w = 0; w < ways; w++) {
                times.lay(jobs, row);
                if (!times.ring) {
                    least = whole == 0 ? times.span : Math.min(least, times.span);
                    whole++;
                }
                nextOfAll(jobs);
            }
        }

        /** Like a counter's figures: a machine whose orders are through begins again, the next one goes on. */
        private void nextOfAll(Jobs jobs) {
            for (int m = 0; m < MACHINES; m++) {
                if (nextOrder(row, jobs.slots[m], jobs.slots[m + 1])) {
                    return;
                }
            }
        }
    }
}

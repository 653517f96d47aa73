import java.util.ArrayDeque;
import java.util.ArrayList;
import java.util.Collections;
import java.util.List;
import java.util.regex.Matcher;
import java.util.regex.Pattern;

/**
 * The document once more, written apart from the program and as slowly as its words go: ticks are
 * counted one by one, all orders are really made, starts are pushed on until nothing moves.
 */
final class Model {
    static final int BAD = -1, NOT = -2, FULL = -3, RING = -4, STATE = -5, LONG = -7;
    private static final Pattern SHOP =
            Pattern.compile("[0-4] [1-9][0-9]?([,;][0-4] [1-9][0-9]?)*");

    record Task(int job, int place, int machine, int lasts) {
    }

    record Image(List<Task> tasks, List<List<Integer>> orders) {
    }

    private StringBuilder tape = new StringBuilder();
    private List<Task> tasks = new ArrayList<>();
    private List<List<Integer>> orders = new ArrayList<>();
    private final ArrayDeque<List<List<Integer>>> undone = new ArrayDeque<>();
    private final ArrayDeque<List<List<Integer>>> done = new ArrayDeque<>();
    private final List<String> kept = new ArrayList<>();
    private int most = 4;
    private Integer least = null;
    private List<List<Integer>> best = null;
    private int stepped = 0;
    private Image image = null;

    // ---- the face

    int feed(int letter) {
        if (letter < 32 || letter > 126) return BAD;
        if (tape.length() == 140) return FULL;
        tape.append((char) letter);
        return tape.length();
    }

    int shop() {
        String text = tape.toString();
        tape = new StringBuilder();
        int fault = fault(text);
        if (fault >= 0) return -100 - fault;
        tasks = new ArrayList<>();
        int j = 0;
        for (String job : text.split(";")) {
            int p = 0;
            for (String task : job.split(",")) {
                String[] two = task.split(" ");
                tasks.add(new Task(j, p++, Integer.parseInt(two[0]), Integer.parseInt(two[1])));
            }
            j++;
        }
        orders = byNumbers();
        forgetAll();
        return tasks.size();
    }

    int task(int t, int what) {
        if (t < 0 || t >= tasks.size() || what < 0 || what > 4) return BAD;
        Task x = tasks.get(t);
        return switch (what) {
            case 0 -> x.job;
            case 1 -> x.place;
            case 2 -> x.machine;
            case 3 -> x.lasts;
            default -> orders.get(x.machine).indexOf(t);
        };
    }

    int order(int machine, int k) {
        if (machine < 0 || machine > 4 || k < -1) return BAD;
        if (tasks.isEmpty()) return STATE;
        return nth(orders.get(machine), k);
    }

    int turn(int machine, int k) {
        if (machine < 0 || machine > 4 || k < 0 || tasks.isEmpty()) return BAD;
        if ((long) k + 1 >= orders.get(machine).size()) return BAD;
        change();
        Collections.swap(orders.get(machine), k, k + 1);
        return spanOf(orders);
    }

    int span() {
        return tasks.isEmpty() ? STATE : spanOf(orders);
    }

    int of(int t, int what) {
        if (t < 0 || t >= tasks.size() || what < 0 || what > 3) return BAD;
        if (span() < 0) return span();
        int start = starts(orders)[t];
        int tail = tail(t);
        int slack = span() - start - tasks.get(t).lasts - tail;
        return switch (what) {
            case 0 -> start;
            case 1 -> tail;
            case 2 -> slack;
            default -> slack == 0 ? 1 : 0;
        };
    }

    int way(int k) {
        if (k < -1) return BAD;
        if (span() < 0) return span();
        return nth(longestWay(), k);
    }

    int block(int b) {
        if (b < -1) return BAD;
        if (span() < 0) return span();
        List<Integer> sizes = new ArrayList<>();
        for (List<Integer> one : blocks()) sizes.add(one.size());
        return nth(sizes, b);
    }

    int move(int k) {
        if (k < -1) return BAD;
        if (span() < 0) return span();
        List<Integer> numbers = new ArrayList<>();
        for (int[] m : moves()) numbers.add(100 * m[0] + m[1]);
        return nth(numbers, k);
    }

    int brings(int k, int what) {
        if (k < 0 || what < 0 || what > 2) return BAD;
        if (span() < 0) return span();
        List<int[]> moves = moves();
        if (k >= moves.size()) return NOT;
        int a = moves.get(k)[0];
        int b = moves.get(k)[1];
        return switch (what) {
            case 0 -> atLeast(a, b);
            case 1 -> spanOf(swapped(a, b));
            default -> kept.contains(name(a, b)) ? 1 : 0;
        };
    }

    int does(int k) {
        if (k < 0) return BAD;
        if (span() < 0) return span();
        List<int[]> moves = moves();
        if (k >= moves.size()) return NOT;
        List<List<Integer>> then = swapped(moves.get(k)[0], moves.get(k)[1]);
        change();
        orders = then;
        return span();
    }

    int tabu(int n) {
        if (n < 0 || n > 9) return BAD;
        int old = most;
        most = n;
        forgetSteps();
        return old;
    }

    int step(int n) {
        if (n < 1 || n > 30) return BAD;
        if (span() < 0) return span();
        int many = 0;
        for (int i = 0; i < n; i++) {
            lookForLeast();
            List<int[]> moves = moves();
            if (moves.isEmpty()) break;
            int[] m = chosen(moves);
            List<List<Integer>> then = swapped(m[0], m[1]);
            change();
            orders = then;
            kept.remove(name(m[1], m[0]));
            kept.add(name(m[1], m[0]));
            while (kept.size() > most) kept.remove(0);
            lookForLeast();
            many++;
        }
        stepped += many;
        return many;
    }

    int kept(int i) {
        if (i < -1) return BAD;
        List<Integer> numbers = new ArrayList<>();
        for (String s : kept) {
            String[] two = s.split(">");
            numbers.add(100 * Integer.parseInt(two[0]) + Integer.parseInt(two[1]));
        }
        return nth(numbers, i);
    }

    int best(int what) {
        if (what != 0 && what != 1) return BAD;
        if (tasks.isEmpty()) return STATE;
        if (least == null) return NOT;
        if (what == 0) return least;
        change();
        orders = copy(best);
        return span();
    }

    int dispatch(int rule) {
        if (rule < 0 || rule > 3) return BAD;
        if (tasks.isEmpty()) return STATE;
        change();
        orders = dispatched(rule);
        return span();
    }

    int would(int rule) {
        if (rule < 0 || rule > 3) return BAD;
        if (tasks.isEmpty()) return STATE;
        return spanOf(dispatched(rule));
    }

    int machine(int machine, int how) {
        if (machine < 0 || machine > 4 || how < 0 || how > 1) return BAD;
        if (tasks.isEmpty()) return STATE;
        List<Integer> on = on(machine);
        if (on.isEmpty()) return NOT;
        if (how == 1) return preempted(on);
        return on.size() > 6 ? LONG : alone(on);
    }

    int bound() {
        if (tasks.isEmpty()) return STATE;
        int most = 0;
        for (int t = 0; t < tasks.size(); t++) most = Math.max(most, head(t) + tasks.get(t).lasts + jobTail(t));
        for (int m = 0; m < 5; m++) {
            if (on(m).isEmpty()) continue;
            if (on(m).size() > 6) return LONG;
            most = Math.max(most, alone(on(m)));
        }
        return most;
    }

    int all(int what) {
        if (what != 0 && what != 1) return BAD;
        if (tasks.isEmpty()) return STATE;
        double ways = 1;
        for (int m = 0; m < 5; m++) for (int k = 2; k <= on(m).size(); k++) ways *= k;
        if (ways > 720) return LONG;
        List<Integer> spans = new ArrayList<>();
        everyOrder(0, new ArrayList<>(), spans);
        return what == 0 ? spans.size() : Collections.min(spans);
    }

    int chart(int i) {
        if (i < -1) return BAD;
        if (span() < 0) return span();
        String drawn = drawn();
        if (i == -1) return drawn.length();
        return i < drawn.length() ? drawn.charAt(i) : NOT;
    }

    int undo() {
        if (undone.isEmpty()) return STATE;
        done.push(orders);
        orders = undone.pop();
        return undone.size();
    }

    int redo() {
        if (done.isEmpty()) return STATE;
        undone.push(orders);
        orders = done.pop();
        return done.size();
    }

    int image() {
        if (tasks.isEmpty()) return STATE;
        image = new Image(tasks, copy(orders));
        return tasks.size();
    }

    int back() {
        if (image == null) return STATE;
        tasks = image.tasks;
        orders = copy(image.orders);
        forgetAll();
        return tasks.size();
    }

    int count(int what) {
        return switch (what) {
            case 0 -> tasks.isEmpty() ? 0 : tasks.get(tasks.size() - 1).job + 1;
            case 1 -> tasks.size();
            case 2 -> tape.length();
            case 3 -> undone.size();
            case 4 -> done.size();
            case 5 -> stepped;
            default -> BAD;
        };
    }

    // ---- behind the face

    /** -1 if there is none. */
    static int fault(String text) {
        int commas = 0;
        int semis = 0;
        int seps = 0;
        for (int p = 0; p < text.length(); p++) {
            Matcher m = SHOP.matcher(text.substring(0, p + 1));
            if (!m.matches() && !m.hitEnd()) return p;
            char c = text.charAt(p);
            if (c == ',' || c == ';') {
                seps++;
                commas = c == ',' ? commas + 1 : 0;
                semis += c == ';' ? 1 : 0;
                if (seps == 24 || commas == 6 || semis == 6) return p + 1;
            }
        }
        return SHOP.matcher(text).matches() ? -1 : text.length();
    }

    private static int nth(List<Integer> row, int k) {
        if (k == -1) return row.size();
        return k < row.size() ? row.get(k) : NOT;
    }

    private static String name(int a, int b) {
        return a + ">" + b;
    }

    private static List<List<Integer>> copy(List<List<Integer>> rows) {
        List<List<Integer>> other = new ArrayList<>();
        for (List<Integer> row : rows) other.add(new ArrayList<>(row));
        return other;
    }

    private List<Integer> on(int machine) {
        List<Integer> row = new ArrayList<>();
        for (int t = 0; t < tasks.size(); t++) if (tasks.get(t).machine == machine) row.add(t);
        return row;
    }

    private List<List<Integer>> byNumbers() {
        List<List<Integer>> rows = new ArrayList<>();
        for (int m = 0; m < 5; m++) rows.add(on(m));
        return rows;
    }

    private void forgetSteps() {
        kept.clear();
        least = null;
        best = null;
    }

    private void forgetAll() {
        undone.clear();
        done.clear();
        forgetSteps();
    }

    private void change() {
        undone.push(copy(orders));
        if (undone.size() > 16) undone.removeLast();
        done.clear();
    }

    private void lookForLeast() {
        if (least == null || span() < least) {
            least = span();
            best = copy(orders);
        }
    }

    private boolean sameJob(int a, int b) {
        return a >= 0 && b >= 0 && a < tasks.size() && b < tasks.size() && tasks.get(a).job == tasks.get(b).job;
    }

    private boolean waitsFor(int t, int other, List<List<Integer>> rows) {
        if (other == t - 1 && sameJob(t, other)) return true;
        List<Integer> row = rows.get(tasks.get(t).machine);
        int i = row.indexOf(t);
        return i > 0 && row.get(i - 1) == other;
    }

    /** null if there is a ring. */
    private int[] starts(List<List<Integer>> rows) {
        int n = tasks.size();
        boolean[][] waits = new boolean[n][n];
        for (int t = 0; t < n; t++) for (int o = 0; o < n; o++) waits[t][o] = waitsFor(t, o, rows);
        int[] start = new int[n];
        for (int round = 0; round <= n; round++) {
            boolean moved = false;
            for (int t = 0; t < n; t++) {
                for (int o = 0; o < n; o++) {
                    if (waits[t][o] && start[t] < start[o] + tasks.get(o).lasts) {
                        start[t] = start[o] + tasks.get(o).lasts;
                        moved = true;
                    }
                }
            }
            if (!moved) return start;
        }
        return null;
    }

    private int spanOf(List<List<Integer>> rows) {
        int[] start = starts(rows);
        if (start == null) return RING;
        int span = 0;
        for (int t = 0; t < tasks.size(); t++) span = Math.max(span, start[t] + tasks.get(t).lasts);
        return span;
    }

    private int tail(int t) {
        return tails()[t];
    }

    private int[] tails() {
        int n = tasks.size();
        int[] tail = new int[n];
        for (int round = 0; round < n; round++) {
            for (int t = 0; t < n; t++) {
                for (int o = 0; o < n; o++) {
                    if (waitsFor(t, o, orders)) tail[o] = Math.max(tail[o], tasks.get(t).lasts + tail[t]);
                }
            }
        }
        return tail;
    }

    private List<Integer> longestWay() {
        int n = tasks.size();
        int[] start = starts(orders);
        int[] tail = tails();
        int span = span();
        List<Integer> way = new ArrayList<>();
        int end = 0;
        while (end < span) {
            int found = -1;
            for (int t = 0; t < n && found < 0; t++) {
                boolean critical = start[t] + tasks.get(t).lasts + tail[t] == span;
                boolean follows = way.isEmpty() || waitsFor(t, way.get(way.size() - 1), orders);
                if (critical && start[t] == end && follows) found = t;
            }
            way.add(found);
            end = start[found] + tasks.get(found).lasts;
        }
        return way;
    }

    private List<List<Integer>> blocks() {
        List<List<Integer>> blocks = new ArrayList<>();
        int machine = -1;
        for (int t : longestWay()) {
            if (tasks.get(t).machine != machine) blocks.add(new ArrayList<>());
            machine = tasks.get(t).machine;
            blocks.get(blocks.size() - 1).add(t);
        }
        return blocks;
    }

    private List<int[]> moves() {
        List<int[]> moves = new ArrayList<>();
        List<List<Integer>> blocks = blocks();
        if (blocks.size() == 1) return moves;
        for (int b = 0; b < blocks.size(); b++) {
            List<Integer> block = blocks.get(b);
            for (int i = 0; i + 1 < block.size(); i++) {
                boolean firstTwo = i == 0;
                boolean lastTwo = i == block.size() - 2;
                boolean may = b == 0 ? lastTwo : b == blocks.size() - 1 ? firstTwo : firstTwo || lastTwo;
                if (may && !sameJob(block.get(i), block.get(i + 1))) {
                    moves.add(new int[] {block.get(i), block.get(i + 1)});
                }
            }
        }
        return moves;
    }

    private List<List<Integer>> swapped(int a, int b) {
        List<List<Integer>> rows = copy(orders);
        List<Integer> row = rows.get(tasks.get(a).machine);
        Collections.swap(row, row.indexOf(a), row.indexOf(b));
        return rows;
    }

    private int atLeast(int a, int b) {
        int[] start = starts(orders);
        int[] tail = tails();
        List<Integer> row = orders.get(tasks.get(a).machine);
        int i = row.indexOf(a);
        int la = tasks.get(a).lasts;
        int lb = tasks.get(b).lasts;
        int sb = 0;
        if (sameJob(b - 1, b)) sb = Math.max(sb, start[b - 1] + tasks.get(b - 1).lasts);
        if (i > 0) sb = Math.max(sb, start[row.get(i - 1)] + tasks.get(row.get(i - 1)).lasts);
        int sa = sb + lb;
        if (sameJob(a - 1, a)) sa = Math.max(sa, start[a - 1] + tasks.get(a - 1).lasts);
        int ta = 0;
        if (sameJob(a + 1, a)) ta = Math.max(ta, tasks.get(a + 1).lasts + tail[a + 1]);
        if (i + 2 < row.size()) ta = Math.max(ta, tasks.get(row.get(i + 2)).lasts + tail[row.get(i + 2)]);
        int tb = la + ta;
        if (sameJob(b + 1, b)) tb = Math.max(tb, tasks.get(b + 1).lasts + tail[b + 1]);
        return Math.max(sa + la + ta, sb + lb + tb);
    }

    private int[] chosen(List<int[]> moves) {
        List<int[]> free = new ArrayList<>();
        List<int[]> out = new ArrayList<>();
        for (int[] m : moves) {
            boolean isKept = kept.contains(name(m[0], m[1]));
            if (isKept && spanOf(swapped(m[0], m[1])) >= least) out.add(m);
            else free.add(m);
        }
        if (free.isEmpty()) {
            out.sort((x, y) -> kept.indexOf(name(x[0], x[1])) - kept.indexOf(name(y[0], y[1])));
            return out.get(0);
        }
        free.sort((x, y) -> spanOf(swapped(x[0], x[1])) - spanOf(swapped(y[0], y[1])));
        return free.get(0);
    }

    private int head(int t) {
        int sum = 0;
        for (int o = 0; o < t; o++) if (sameJob(o, t)) sum += tasks.get(o).lasts;
        return sum;
    }

    private int jobTail(int t) {
        int sum = 0;
        for (int o = t + 1; o < tasks.size(); o++) if (sameJob(o, t)) sum += tasks.get(o).lasts;
        return sum;
    }

    private List<List<Integer>> dispatched(int rule) {
        List<List<Integer>> rows = new ArrayList<>();
        for (int m = 0; m < 5; m++) rows.add(new ArrayList<>());
        int n = tasks.size();
        int[] end = new int[n];
        boolean[] put = new boolean[n];
        for (int i = 0; i < n; i++) {
            List<int[]> first = new ArrayList<>();
            for (int t = 0; t < n; t++) {
                if (put[t] || sameJob(t - 1, t) && !put[t - 1]) continue;
                int start = sameJob(t - 1, t) ? end[t - 1] : 0;
                for (int o : rows.get(tasks.get(t).machine)) start = Math.max(start, end[o]);
                int left = tasks.get(t).lasts + jobTail(t);
                int wish = new int[] {tasks.get(t).lasts, -tasks.get(t).lasts, -left, left}[rule];
                first.add(new int[] {start, wish, t});
            }
            first.sort((x, y) -> x[0] != y[0] ? x[0] - y[0] : x[1] != y[1] ? x[1] - y[1] : x[2] - y[2]);
            int t = first.get(0)[2];
            put[t] = true;
            end[t] = first.get(0)[0] + tasks.get(t).lasts;
            rows.get(tasks.get(t).machine).add(t);
        }
        return rows;
    }

    private static List<List<Integer>> permutations(List<Integer> row) {
        List<List<Integer>> ways = new ArrayList<>();
        if (row.isEmpty()) ways.add(new ArrayList<>());
        for (int i = 0; i < row.size(); i++) {
            List<Integer> rest = new ArrayList<>(row);
            int x = rest.remove(i);
            for (List<Integer> way : permutations(rest)) {
                way.add(0, x);
                ways.add(way);
            }
        }
        return ways;
    }

    private int alone(List<Integer> on) {
        int best = Integer.MAX_VALUE;
        for (List<Integer> way : permutations(on)) {
            int now = 0;
            int over = 0;
            for (int t : way) {
                now = Math.max(now, head(t)) + tasks.get(t).lasts;
                over = Math.max(over, now + jobTail(t));
            }
            best = Math.min(best, over);
        }
        return best;
    }

    private int preempted(List<Integer> on) {
        int[] left = new int[tasks.size()];
        int whole = 0;
        for (int t : on) whole += left[t] = tasks.get(t).lasts;
        int over = 0;
        for (int tick = 0; whole > 0; tick++) {
            int pick = -1;
            for (int t : on) {
                if (left[t] > 0 && head(t) <= tick && (pick < 0 || jobTail(t) > jobTail(pick))) pick = t;
            }
            if (pick < 0) continue;
            whole--;
            if (--left[pick] == 0) over = Math.max(over, tick + 1 + jobTail(pick));
        }
        return over;
    }

    private void everyOrder(int machine, List<List<Integer>> rows, List<Integer> spans) {
        if (machine == 5) {
            int span = spanOf(rows);
            if (span != RING) spans.add(span);
            return;
        }
        for (List<Integer> way : permutations(on(machine))) {
            rows.add(way);
            everyOrder(machine + 1, rows, spans);
            rows.remove(machine);
        }
    }

    private String drawn() {
        int[] start = starts(orders);
        StringBuilder all = new StringBuilder();
        for (int m = 0; m < 5; m++) {
            StringBuilder line = new StringBuilder(".".repeat(span()));
            for (int t : on(m)) {
                for (int i = 0; i < tasks.get(t).lasts; i++) line.setCharAt(start[t] + i, (char) ('0' + tasks.get(t).job));
            }
            all.append(line).append('\n');
        }
        return all.toString();
    }
}

import java.util.ArrayList;
import java.util.List;
import java.util.function.IntUnaryOperator;

/** Rows of calls whose answers, together, tell all of how an object stands. */
enum Probe {
    LOOK, TIMES, UNDO, REDO, BEST, BACK, TAPE, T, STEP;

    /** The answers of this row of calls; each is meant for an object of its own. */
    List<Integer> ask(ShopFloor x) {
        List<Integer> a = new ArrayList<>();
        switch (this) {
            case LOOK -> look(x, a);
            case TIMES -> times(x, a);
            case UNDO -> {
                while (a.add(x.undo()) && a.get(a.size() - 1) >= 0) orders(x, a);
            }
            case REDO -> {
                while (a.add(x.redo()) && a.get(a.size() - 1) >= 0) orders(x, a);
            }
            case BEST -> {
                a.add(x.best(1));
                orders(x, a);
                counts(x, a);
            }
            case BACK -> {
                a.add(x.back());
                jobs(x, a);
                orders(x, a);
                counts(x, a);
            }
            case TAPE -> {
                a.add(x.shop());
                jobs(x, a);
                counts(x, a);
            }
            case T -> a.add(x.tabu(4));
            case STEP -> {
                a.add(x.step(5));
                orders(x, a);
                a.addAll(row(x::kept));
                a.add(x.best(0));
            }
        }
        return a;
    }

    /** What a call tells by k -1 is how many; by 0 and on, each of these; an answer below 0 stands alone. */
    static List<Integer> row(IntUnaryOperator call) {
        List<Integer> a = new ArrayList<>();
        int many = call.applyAsInt(-1);
        if (many < 0) a.add(many);
        for (int k = 0; k < many; k++) a.add(call.applyAsInt(k));
        return a;
    }

    private static void look(ShopFloor x, List<Integer> a) {
        counts(x, a);
        jobs(x, a);
        orders(x, a);
        a.addAll(row(x::way));
        a.addAll(row(x::block));
        List<Integer> moves = row(x::move);
        a.addAll(moves);
        for (int k = 0; k < moves.size() && moves.get(k) >= 0; k++) {
            for (int w = 0; w < 3; w++) a.add(x.brings(k, w));
        }
        a.addAll(row(x::kept));
        a.add(x.best(0));
    }

    private static void times(ShopFloor x, List<Integer> a) {
        a.add(x.span());
        int tasks = x.count(1);
        for (int t = 0; t < tasks; t++) {
            for (int w = 0; w < 4; w++) a.add(x.of(t, w));
        }
        for (int rule = 0; rule < 4; rule++) a.add(x.would(rule));
        for (int m = 0; m < 5; m++) {
            a.add(x.machine(m, 0));
            a.add(x.machine(m, 1));
        }
        a.add(x.bound());
        a.add(x.all(0));
        a.add(x.all(1));
        int drawn = x.chart(-1);
        a.add(drawn);
        // Some bytes of a long one: all that an object is asked stays below 512 calls.
        for (int i = 0; i < drawn; i += 1 + drawn / 50) a.add(x.chart(i));
    }

    private static void counts(ShopFloor x, List<Integer> a) {
        for (int w = 0; w < 6; w++) a.add(x.count(w));
    }

    private static void jobs(ShopFloor x, List<Integer> a) {
        int tasks = x.count(1);
        for (int t = 0; t < tasks; t++) {
            for (int w = 0; w < 5; w++) a.add(x.task(t, w));
        }
    }

    private static void orders(ShopFloor x, List<Integer> a) {
        for (int m = 0; m < 5; m++) {
            int machine = m;
            a.addAll(row(k -> x.order(machine, k)));
        }
    }
}

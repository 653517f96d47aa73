import java.util.Random;

/** Random runs of calls, answered by the program and by the Model alike; the seeds are fixed. */
public final class FuzzTest {
    private static final String[] NAMES = {"feed", "shop", "task", "order", "turn", "span", "of", "way", "block",
        "move", "brings", "does", "tabu", "step", "kept", "best", "dispatch", "would", "machine", "bound", "all",
        "chart", "undo", "redo", "image", "back", "count"};
    private static final int[] ODD = {-1, -2, Integer.MIN_VALUE, Integer.MAX_VALUE, 100, 31, 24, 10, 6, 5};

    private final Random dice;
    private final ShopFloor x = new ShopFloor();
    private final Model m = new Model();
    private final StringBuilder told = new StringBuilder();
    private int calls = 0;

    private FuzzTest(long seed) {
        dice = new Random(seed);
    }

    public static void main(String[] args) {
        int runs = args.length > 0 ? Integer.parseInt(args[0]) : 2500;
        for (int seed = 1; seed <= runs && !Check.anyWrong(); seed++) {
            FuzzTest run = new FuzzTest(seed);
            run.go(seed);
            if (Check.anyWrong()) {
                System.out.println("seed " + seed + ":" + run.told);
            }
        }
        Check.end();
    }

    private void go(int seed) {
        int style = seed % 5;
        if (dice.nextInt(8) > 0) {
            text(style);
        }
        while (calls < 500 && !Check.anyWrong()) {
            int what = dice.nextInt(100);
            if (what < 1 && calls < 350) {
                text(dice.nextInt(5));
            } else if (what < 5 && calls < 350) {
                lookAtAll();
            } else {
                anyCall();
            }
        }
    }

    /** A shop, or nearly one. */
    private void text(int style) {
        String text = shopText(style);
        if (dice.nextInt(4) == 0) {
            text = spoilt(text);
        }
        for (int i = 0; i < text.length() && calls < 500; i++) {
            call("feed", text.charAt(i), 0);
        }
        call("shop", 0, 0);
    }

    private String shopText(int style) {
        int jobs = 1 + dice.nextInt(style == 4 ? 7 : 6);
        int machines = 1 + dice.nextInt(5);
        int longest = style == 0 ? 9 : style == 1 ? 3 : style == 2 ? 1 : 99;
        int most = style == 0 || style == 3 ? 3 : style == 4 ? 7 : 4;
        StringBuilder text = new StringBuilder();
        int whole = 0;
        for (int j = 0; j < jobs; j++) {
            int tasks = 1 + dice.nextInt(most);
            if (style == 4 && dice.nextInt(2) == 0) {
                tasks = 6;
            }
            for (int p = 0; p < tasks && (whole < 24 || dice.nextInt(20) == 0); p++) {
                text.append(p > 0 ? "," : j > 0 ? ";" : "");
                text.append(dice.nextInt(machines)).append(' ').append(1 + dice.nextInt(longest));
                whole++;
            }
        }
        return text.length() > 140 ? text.substring(0, 140) : text.toString();
    }

    private String spoilt(String text) {
        StringBuilder other = new StringBuilder(text);
        int at = dice.nextInt(text.length());
        char sign = "0123456789 ,;5x0"
                .charAt(dice.nextInt(16));
        switch (dice.nextInt(4)) {
            case 0 -> other.setLength(at);
            case 1 -> other.setCharAt(at, sign);
            case 2 -> other.insert(at, sign);
            default -> other.deleteCharAt(at);
        }
        return other.toString();
    }

    private void lookAtAll() {
        for (int m = 0; m < 5; m++) {
            int many = call("order", m, -1);
            for (int k = 0; k < many; k++) call("order", m, k);
        }
        int moves = call("move", -1, 0);
        for (int k = 0; k < moves; k++) {
            call("move", k, 0);
            int atLeast = call("brings", k, 0);
            int brings = call("brings", k, 1);
            Check.due("\"No MOVE makes a RING\", and AT LEAST is no more than it brings", 0 < atLeast && atLeast <= brings ? 1 : 0, 1);
            call("brings", k, 2);
        }
        int blocks = call("block", -1, 0);
        for (int b = 0; b < blocks; b++) call("block", b, 0);
        int kept = call("kept", -1, 0);
        for (int i = 0; i < kept; i++) call("kept", i, 0);
        for (int w = 0; w < 6; w++) call("count", w, 0);
    }

    private void anyCall() {
        String name = NAMES[dice.nextInt(NAMES.length)];
        int bias = dice.nextInt(10);
        if (bias == 0) name = "step";
        if (bias == 1) name = "turn";
        if (bias == 2) name = "does";
        if (bias == 3) name = dice.nextBoolean() ? "undo" : "redo";
        if (name.equals("shop") && dice.nextInt(4) > 0 || name.equals("tabu") && dice.nextInt(3) > 0) name = "step";
        if (name.equals("feed") && dice.nextInt(3) > 0) name = "chart";
        int a = number(name, true);
        int b = number(name, false);
        if (name.equals("all") && a >= 0 && dice.nextInt(4) > 0) name = "best";
        call(name, a, b);
    }

    private int number(String name, boolean first) {
        if (dice.nextInt(25) == 0) {
            return ODD[dice.nextInt(ODD.length)];
        }
        int tasks = Math.max(1, m.count(1));
        return switch (name) {
            case "feed" -> dice.nextInt(130);
            case "task", "of" -> dice.nextInt(first ? tasks + 1 : 5);
            case "order", "turn" -> dice.nextInt(first ? 5 : 5);
            case "way" -> dice.nextInt(tasks + 2) - 1;
            case "block", "kept" -> dice.nextInt(7) - 1;
            case "move" -> dice.nextInt(6) - 1;
            case "brings", "does" -> dice.nextInt(3);
            case "tabu" -> dice.nextInt(10);
            case "step" -> dice.nextInt(6) == 0 ? 1 + dice.nextInt(30) : 1 + dice.nextInt(3);
            case "dispatch", "would" -> dice.nextInt(4);
            case "machine" -> dice.nextInt(first ? 5 : 2);
            case "chart" -> dice.nextInt(2 + Math.max(0, Math.min(m.chart(-1), 400)));
            case "count" -> dice.nextInt(7);
            default -> dice.nextInt(2);
        };
    }

    private int call(String name, int a, int b) {
        calls++;
        int got = answer(name, a, b);
        int want = modelAnswer(name, a, b);
        String call = name + "(" + a + ", " + b + ")";
        told.append(' ').append(call).append(" = ").append(got);
        Check.due(call, got, want);
        return want;
    }

    private int answer(String name, int a, int b) {
        return switch (name) {
            case "feed" -> x.feed(a);
            case "shop" -> x.shop();
            case "task" -> x.task(a, b);
            case "order" -> x.order(a, b);
            case "turn" -> x.turn(a, b);
            case "span" -> x.span();
            case "of" -> x.of(a, b);
            case "way" -> x.way(a);
            case "block" -> x.block(a);
            case "move" -> x.move(a);
            case "brings" -> x.brings(a, b);
            case "does" -> x.does(a);
            case "tabu" -> x.tabu(a);
            case "step" -> x.step(a);
            case "kept" -> x.kept(a);
            case "best" -> x.best(a);
            case "dispatch" -> x.dispatch(a);
            case "would" -> x.would(a);
            case "machine" -> x.machine(a, b);
            case "bound" -> x.bound();
            case "all" -> x.all(a);
            case "chart" -> x.chart(a);
            case "undo" -> x.undo();
            case "redo" -> x.redo();
            case "image" -> x.image();
            case "back" -> x.back();
            default -> x.count(a);
        };
    }

    private int modelAnswer(String name, int a, int b) {
        return switch (name) {
            case "feed" -> m.feed(a);
            case "shop" -> m.shop();
            case "task" -> m.task(a, b);
            case "order" -> m.order(a, b);
            case "turn" -> m.turn(a, b);
            case "span" -> m.span();
            case "of" -> m.of(a, b);
            case "way" -> m.way(a);
            case "block" -> m.block(a);
            case "move" -> m.move(a);
            case "brings" -> m.brings(a, b);
            case "does" -> m.does(a);
            case "tabu" -> m.tabu(a);
            case "step" -> m.step(a);
            case "kept" -> m.kept(a);
            case "best" -> m.best(a);
            case "dispatch" -> m.dispatch(a);
            case "would" -> m.would(a);
            case "machine" -> m.machine(a, b);
            case "bound" -> m.bound();
            case "all" -> m.all(a);
            case "chart" -> m.chart(a);
            case "undo" -> m.undo();
            case "redo" -> m.redo();
            case "image" -> m.image();
            case "back" -> m.back();
            default -> m.count(a);
        };
    }
}

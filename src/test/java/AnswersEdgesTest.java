/** "Answers": which is told first, and that what is answered so changes nothing; for every call of the face. */
public final class AnswersEdgesTest {
    private static final int BAD = -1, NOT = -2, FULL = -3, RING = -4, STATE = -5, LONG = -7;
    private static final int LOW = Scene.LOW, HIGH = Scene.HIGH;
    /** Without a shop, with one, with one in use, in a ring, with too many on a machine, with a full tape. */
    private static final Scene[] SCENES = {Scene.BARE, Scene.FRESH, Scene.WORN_AND_TAPE, Scene.RINGED, Scene.SEVEN,
        new Scene("a full tape").shop(Scene.THREE).tape("0 1;" + "x".repeat(136))};

    private AnswersEdgesTest() {
    }

    public static void main(String[] args) {
        Check.runAll(AnswersEdgesTest.class);
    }

    /** "BAD = -1, NOT = -2, FULL = -3, RING = -4, STATE = -5, LONG = -7" */
    static void p00Constants() {
        Check.due("BAD", ShopFloor.BAD, BAD);
        Check.due("NOT", ShopFloor.NOT, NOT);
        Check.due("FULL", ShopFloor.FULL, FULL);
        Check.due("RING", ShopFloor.RING, RING);
        Check.due("STATE", ShopFloor.STATE, STATE);
        Check.due("LONG", ShopFloor.LONG, LONG);
    }

    private static void bad(String call, int... args) {
        for (Scene scene : SCENES) scene.due(BAD, call, args);
    }

    /** "of several the one named first: BAD (-1)", whatever else there is: calls with one number */
    static void p00BadAheadOfAllOneNumber() {
        for (int n : new int[] {31, 127}) bad("feed", n);
        for (String call : new String[] {"way", "block", "move", "kept", "chart"}) bad(call, -2);
        bad("does", -1);
        for (int n : new int[] {-1, 10}) bad("tabu", n);
        for (int n : new int[] {0, 31}) bad("step", n);
        for (String call : new String[] {"best", "all"}) {
            bad(call, -1);
            bad(call, 2);
        }
        for (String call : new String[] {"dispatch", "would"}) {
            bad(call, -1);
            bad(call, 4);
        }
        for (int n : new int[] {-1, 6}) bad("count", n);
    }

    /** "of several the one named first: BAD (-1)", whatever else there is: calls with two numbers */
    static void p00BadAheadOfAllTwoNumbers() {
        for (int t : new int[] {-1, 24}) {
            bad("task", t, 0);
            bad("of", t, 0);
        }
        bad("task", 0, -1);
        bad("task", 0, 5);
        bad("of", 0, -1);
        bad("of", 0, 4);
        for (int m : new int[] {-1, 5}) {
            bad("order", m, -1);
            bad("turn", m, 0);
            bad("machine", m, 0);
        }
        bad("order", 0, -2);
        bad("turn", 0, -1);
        bad("turn", 4, 0);
        bad("brings", -1, 0);
        bad("brings", 0, -1);
        bad("brings", 99, 3);
        bad("machine", 0, -1);
        bad("machine", 4, 2);
    }

    /** "k below -1, or below 0, where it tells no number": the least of all ints, too */
    static void p00FarOut() {
        for (int n : new int[] {LOW, LOW + 1}) {
            for (String call : new String[] {"feed", "way", "block", "move", "does", "tabu", "step", "kept", "best",
                "dispatch", "would", "all", "chart", "count"}) {
                bad(call, n);
            }
        }
        for (String call : new String[] {"feed", "tabu", "step", "best", "dispatch", "would", "all", "count"}) {
            bad(call, HIGH);
        }
        for (String call : new String[] {"task", "of", "turn", "machine", "order"}) {
            bad(call, LOW, LOW);
            bad(call, HIGH, HIGH);
        }
        bad("brings", LOW, 0);
        bad("brings", 0, LOW);
        bad("brings", HIGH, HIGH);
    }

    /** "STATE (-5): there is no SHOP", ahead of NOT */
    static void p00StateAheadOfNot() {
        for (String call : new String[] {"way", "block", "move", "chart", "does"}) Scene.BARE.due(STATE, call, HIGH);
        Scene.BARE.due(STATE, "brings", HIGH, 2);
        Scene.BARE.due(STATE, "order", 4, HIGH);
        Scene.BARE.due(STATE, "best", 0);
        Scene.BARE.due(STATE, "machine", 4, 0);
    }

    /** "(then nothing below can be told: RING)", ahead of NOT */
    static void p00RingAheadOfNot() {
        for (String call : new String[] {"way", "block", "move", "chart", "does"}) Scene.RINGED.due(RING, call, HIGH);
        Scene.RINGED.due(RING, "brings", HIGH, 2);
        Scene.RINGED.due(RING, "span");
        Scene.RINGED.due(RING, "of", 0, 0);
        Scene.RINGED.due(RING, "step", 1);
        Scene.RINGED.due(RING, "step", 30);
        Scene.RINGED.due(NOT, "order", 0, 2);
    }

    /** "without a SHOP there is no TASK": BAD, not STATE */
    static void p00NoShopNoTask() {
        Scene.BARE.due(BAD, "task", 0, 0);
        Scene.BARE.due(BAD, "of", 0, 0);
        Scene.BARE.due(BAD, "turn", 0, 0);
    }

    /** "THE TAPE is empty behind each call that reads it ..; it stays just where that is said": shop() alone reads it */
    static void p00JustShopReadsTheTape() {
        ShopFloor x = Scene.WORN_AND_TAPE.made();
        int[] answers = {x.task(0, 0), x.order(0, -1), x.turn(0, 0), x.span(), x.of(0, 0), x.way(-1), x.block(-1),
            x.move(-1), x.brings(0, 0), x.does(0), x.step(1), x.kept(-1), x.best(1), x.dispatch(0), x.would(0),
            x.machine(0, 0), x.bound(), x.all(0), x.chart(-1), x.undo(), x.redo(), x.image(), x.back(), x.tabu(4)};
        Check.due("calls", answers.length, 24);
        Check.due("three bytes still", x.count(2), 3);
        Check.due("the shop of them", x.shop(), 1);
        Check.due("none", x.count(2), 0);
    }
}

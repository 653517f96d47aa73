import java.util.ArrayList;
import java.util.List;

/** "moves" (promises 11 to 17, Terms 2 and 3): a test for each sentence with a boundary, on both sides of it. */
public final class MovesEdgesTest {
    private static final int BAD = -1, NOT = -2, RING = -4, STATE = -5;
    private static final int LOW = Scene.LOW, HIGH = Scene.HIGH;
    /** The first step leads to 20; behind two steps and turn(2, 0) the move kept first brings 19. */
    private static final String RELEASED = "1 6,2 6,0 5;2 5;2 6,0 2";
    /** Behind three steps both moves are kept; the later one brings LEAST itself, 7, the other one 9. */
    private static final String BOTH_KEPT = "2 3,0 3;2 1,0 3";
    /** Steps go on for long, to and fro between many tasks. */
    private static final String LARGE = "0 5,1 4,2 7;1 3,0 6,2 2;2 4,1 6,0 3;0 4,2 5,1 2;1 7,2 3,0 4;2 2,0 3,1 5";

    private MovesEdgesTest() {
    }

    public static void main(String[] args) {
        Check.runAll(MovesEdgesTest.class);
    }

    private static void dueBrings(ShopFloor x, int k, int atLeast, int brings, int kept) {
        int[] want = {atLeast, brings, kept};
        for (int what = 0; what < 3; what++) Check.due("brings(" + k + ", " + what + ")", x.brings(k, what), want[what]);
    }

    // ---- Promise 11: move

    /** "Of the first BLOCK just its last two may" */
    static void p11FirstBlockJustItsLastTwo() {
        Check.moves(Check.made("0 5,1 3"));
        Check.moves(Check.made("0 1;0 2,1 9"), 1);
        Check.moves(Check.made("0 1;0 2;0 3,1 9"), 102);
        Check.moves(Check.made("0 1;0 2;0 3;0 4,1 9"), 203);
    }

    /** "of the last BLOCK just its first two" */
    static void p11LastBlockJustItsFirstTwo() {
        Check.moves(Check.made("0 9,1 2"));
        Check.moves(Check.made("0 9,1 2;1 3"), 102);
        Check.moves(Check.made("0 9,1 2;1 3;1 4"), 102);
        Check.moves(Check.made("0 9,1 2;1 3;1 4;1 5"), 102);
    }

    /** "of others the first two and the last two (once, if these are the same)" */
    static void p11OtherBlocksFirstTwoAndLastTwo() {
        Check.moves(Check.made("0 9,1 2,2 9"));
        Check.moves(Check.made("0 9,1 2;1 3,2 9"), 102);
        Check.moves(Check.made("0 9,1 2;1 3;1 4,2 9"), 102, 203);
        Check.moves(Check.made("0 9,1 2;1 3;1 4;1 5,2 9"), 102, 304);
        Check.moves(Check.made("0 9,1 2;1 3;1 4;1 5;1 6,2 9"), 102, 405);
    }

    /** "If there is one BLOCK alone, there are none." */
    static void p11OneBlockAlone() {
        Check.moves(Check.made("0 1"));
        Check.moves(Check.made("0 1;0 2"));
        Check.moves(Check.made("0 1;0 2;0 3;0 4"));
        Check.moves(Check.made("0 1;0 2,1 3;1 4"), 1, 203);
    }

    /** "of unlike JOBS" */
    static void p11OfUnlikeJobs() {
        Check.moves(Check.made(Scene.HOMES));
        Check.moves(Check.made("0 1;0 2;0 3,1 9"), 102);
        Check.moves(Check.made("0 9,1 2,1 3;1 4"));
        Check.moves(Check.made("0 9,1 2,1 3;1 4,2 9"), 203);
        Check.moves(Check.made("0 9,1 2;1 3,1 4,2 9"), 102);
        Check.moves(Check.made("0 9,1 2,1 3,2 9"));
    }

    /** "in the order of the way" */
    static void p11InTheOrderOfTheWay() {
        Check.moves(Check.made("0 1;0 2;0 3,1 4;1 5;1 6"), 102, 304);
        ShopFloor x = Check.made("1 3;0 9,1 2;0 1");
        x.turn(0, 0);
        x.turn(1, 0);
        Check.way(x, 3, 1, 2, 0);
        Check.moves(x, 301, 200);
    }

    /** "change places in their ORDER (they are neighbours there, too)", "No MOVE makes a RING" */
    static void p11NoMoveMakesARing() {
        for (String text : new String[] {Scene.THREE, Scene.CROSS, Scene.FRO, RELEASED, BOTH_KEPT, LARGE}) {
            ShopFloor x = Check.made(text);
            for (int step = 0; step < 8; step++) {
                for (int k = 0; k < x.move(-1); k++) {
                    int a = x.move(k) / 100;
                    int b = x.move(k) % 100;
                    Check.due("machine of both", x.task(a, 2), x.task(b, 2));
                    Check.due("neighbours", x.task(b, 4), x.task(a, 4) + 1);
                    Check.due("brings no ring", x.brings(k, 1) > 0 ? 1 : 0, 1);
                    Check.due("at least is no more", x.brings(k, 0) <= x.brings(k, 1) ? 1 : 0, 1);
                }
                x.step(1);
            }
        }
    }

    /** "100 times the one ahead, and the other; k -1: how many. BAD: k; .. NOT." */
    static void p11K() {
        Scene.FRESH.due(2, "move", -1);
        Scene.FRESH.due(BAD, "move", -2);
        Scene.FRESH.due(BAD, "move", LOW);
        Scene.FRESH.due(204, "move", 0);
        Scene.FRESH.due(506, "move", 1);
        Scene.FRESH.due(NOT, "move", 2);
        Scene.FRESH.due(NOT, "move", HIGH);
        Scene.SEVEN.due(0, "move", -1);
        Scene.SEVEN.due(NOT, "move", 0);
    }

    /** "BAD: k; STATE; RING; NOT" */
    static void p11StateRing() {
        Scene.BARE.due(BAD, "move", -2);
        Scene.BARE.due(STATE, "move", -1);
        Scene.BARE.due(STATE, "move", HIGH);
        Scene.RINGED.due(BAD, "move", -2);
        Scene.RINGED.due(RING, "move", -1);
        Scene.RINGED.due(RING, "move", HIGH);
    }

    // ---- Promise 12: brings

    /** "b's new START: not ahead of the ends of its JOB's one ahead and of that ahead of a in the ORDER" */
    static void p12NewStartOfB() {
        ShopFloor byJob = Check.made("0 2,1 4;3 3,1 5,2 9");
        Check.moves(byJob, 103);
        dueBrings(byJob, 0, 17, 17, 0);
        ShopFloor byOrder = Check.made("1 3;1 4;1 5,2 9");
        Check.moves(byOrder, 102);
        dueBrings(byOrder, 0, 17, 17, 0);
        ShopFloor byNone = Check.made("1 4;1 5,2 9");
        Check.moves(byNone, 1);
        dueBrings(byNone, 0, 14, 14, 0);
    }

    /** "a's: not ahead of b's new end, nor of its JOB's one ahead" */
    static void p12NewStartOfA() {
        ShopFloor byJob = Check.made("0 9,1 2,3 10;1 4,2 12");
        Check.moves(byJob, 103);
        dueBrings(byJob, 0, 21, 21, 0);
        ShopFloor byB = Check.made("0 1,1 5,3 12;1 4,2 10");
        Check.moves(byB, 103);
        dueBrings(byB, 0, 21, 21, 0);
    }

    /** "a's TAIL by its JOB's next one (LASTS and TAIL) and that behind b in the ORDER" */
    static void p12NewTailOfA() {
        ShopFloor byOrder = Check.made("0 9,1 2;1 3;1 4");
        Check.moves(byOrder, 102);
        dueBrings(byOrder, 0, 15, 15, 0);
        ShopFloor byJob = Check.made("0 9,1 2,3 1,4 4;1 6");
        Check.moves(byJob, 104);
        dueBrings(byJob, 0, 16, 16, 0);
    }

    /** "b's by its JOB's next one and a (LASTS and new TAIL)" */
    static void p12NewTailOfB() {
        ShopFloor byJob = Check.made("0 2,1 4;3 3,1 5,2 9,4 1");
        dueBrings(byJob, 0, 18, 18, 0);
        ShopFloor byA = Check.made("0 1,1 5,3 6;1 4,2 6");
        Check.moves(byA, 103);
        dueBrings(byA, 0, 15, 15, 0);
    }

    /** "the longest way through either ..., if all else stayed": AT LEAST is not what it BRINGS */
    static void p12AtLeastAndBrings() {
        ShopFloor x = Check.made("0 9,1 2;1 4,2 9;3 20");
        Check.moves(x, 102);
        dueBrings(x, 0, 13, 20, 0);
    }

    /** "Of the k-th MOVE": k tells no number below 0; "NOT" */
    static void p12K() {
        for (int what = 0; what < 3; what++) {
            Scene.FRESH.due(new int[] {17, 17, 0}[what], "brings", 0, what);
            Scene.FRESH.due(BAD, "brings", -1, what);
            Scene.FRESH.due(BAD, "brings", LOW, what);
            Scene.FRESH.due(new int[] {13, 13, 0}[what], "brings", 1, what);
            Scene.FRESH.due(NOT, "brings", 2, what);
            Scene.FRESH.due(NOT, "brings", HIGH, what);
            Scene.SEVEN.due(NOT, "brings", 0, what);
        }
    }

    /** "AT LEAST (what 0), what it BRINGS (1), whether TABU keeps it (2" */
    static void p12What0To2() {
        Scene.FRESH.due(BAD, "brings", 0, -1);
        Scene.FRESH.due(BAD, "brings", 0, 3);
        Scene.FRESH.due(BAD, "brings", 0, LOW);
        Scene.FRESH.due(BAD, "brings", 0, HIGH);
        Scene.FRESH.due(BAD, "brings", 2, 3);
        Scene.FRESH.due(BAD, "brings", 2, -1);
    }

    /** "brings() 2: whether the MOVE of the other one, then this one, was done by a STEP and is kept" */
    static void p12KeptByAStep() {
        ShopFloor byStep = Check.made(Scene.FRO);
        byStep.step(1);
        Check.moves(byStep, 200);
        Check.due("done by a step", byStep.brings(0, 2), 1);
        byStep.undo();
        Check.moves(byStep, 2);
        Check.due("the other way round", byStep.brings(0, 2), 0);
        byStep.redo();
        Check.due("still", byStep.brings(0, 2), 1);
        byStep.tabu(4);
        Check.due("no longer kept", byStep.brings(0, 2), 0);
        ShopFloor byHand = Check.made(Scene.FRO);
        byHand.does(0);
        Check.moves(byHand, 200);
        Check.due("done by hand", byHand.brings(0, 2), 0);
    }

    /** "BAD; STATE; RING; NOT" */
    static void p12StateRing() {
        Scene.BARE.due(BAD, "brings", -1, 0);
        Scene.BARE.due(BAD, "brings", 0, 3);
        Scene.BARE.due(STATE, "brings", 0, 0);
        Scene.BARE.due(STATE, "brings", HIGH, 2);
        Scene.RINGED.due(BAD, "brings", -1, 0);
        Scene.RINGED.due(BAD, "brings", 0, 3);
        Scene.RINGED.due(RING, "brings", 0, 0);
        Scene.RINGED.due(RING, "brings", HIGH, 2);
    }

    // ---- Promise 13: does

    /** "The k-th MOVE is done .. SPAN then." */
    static void p13K() {
        ShopFloor first = Check.made(Scene.THREE);
        Check.due("the first", first.does(0), 17);
        Check.order(first, 2, 4, 2, 7);
        Check.order(first, 1, 1, 5, 6);
        ShopFloor last = Check.made(Scene.THREE);
        Check.due("the last", last.does(1), 13);
        Check.order(last, 2, 2, 4, 7);
        Check.order(last, 1, 1, 6, 5);
        Scene.WORN_AND_TAPE.due(1, "move", -1);
        Scene.WORN_AND_TAPE.due(BAD, "does", -1);
        Scene.WORN_AND_TAPE.due(BAD, "does", LOW);
        Scene.WORN_AND_TAPE.due(NOT, "does", 1);
        Scene.WORN_AND_TAPE.due(NOT, "does", HIGH);
        Scene.SEVEN.due(NOT, "does", 0);
    }

    /** "(by hand; TABU stays)", "change neither LEAST, BEST nor what is kept" */
    static void p13TabuStays() {
        ShopFloor x = Check.made(RELEASED);
        x.step(2);
        x.turn(2, 0);
        List<Integer> kept = Probe.row(x::kept);
        Check.due("a kept one", x.brings(0, 2), 1);
        Check.due("less than least", x.does(0), 19);
        Check.same("kept", Probe.row(x::kept), kept);
        Check.due("least", x.best(0), 20);
        Check.due("no step", x.count(5), 2);
        Check.due("a change", x.count(3), 4);
    }

    /** "BAD; STATE; RING; NOT" */
    static void p13StateRing() {
        Scene.BARE.due(BAD, "does", -1);
        Scene.BARE.due(STATE, "does", 0);
        Scene.RINGED.due(BAD, "does", -1);
        Scene.RINGED.due(RING, "does", 0);
        Scene.RINGED.due(RING, "does", HIGH);
    }

    // ---- Promise 14: tabu

    /** "T, 0 .. 9; 4 at first", "what it was. BAD." */
    static void p14T0To9() {
        ShopFloor x = new ShopFloor();
        Check.due("4 at first", x.tabu(0), 4);
        Check.due("0", x.tabu(9), 0);
        Check.due("9", x.tabu(9), 9);
        for (int bad : new int[] {-1, 10, LOW, HIGH}) {
            Scene.BARE.due(BAD, "tabu", bad);
            Scene.WORN_AND_TAPE.due(BAD, "tabu", bad);
            Scene.RINGED.due(BAD, "tabu", bad);
        }
        Check.due("without a shop", Scene.BARE.made().tabu(9), 4);
        Check.due("in a ring", Scene.RINGED.made().tabu(0), 4);
        Check.due("of a worn shop", Scene.WORN.made().tabu(1), 3);
    }

    /** "nothing is kept then", "T as it is also takes off what is kept, LEAST and BEST" */
    static void p14NothingIsKeptThen() {
        for (int t : new int[] {3, 0, 9}) {
            ShopFloor x = Scene.WORN.made();
            Check.due("kept", x.kept(-1), 3);
            int changes = x.count(3);
            Check.due("T was", x.tabu(t), 3);
            Check.kept(x);
            Check.due("no least", x.best(0), NOT);
            Check.due("no best", x.best(1), NOT);
            Check.due("changes stay", x.count(3), changes);
            Check.due("orders stay", x.span(), 13);
            Check.due("steps so far stay", x.count(5), 5);
        }
    }

    // ---- Promise 15: step

    /** "n STEPS (1 .. 30)" */
    static void p15N1To30() {
        Check.due("1", Check.made(Scene.FRO).step(1), 1);
        Check.due("30", Check.made(Scene.FRO).step(30), 30);
        for (int bad : new int[] {0, 31, -1, LOW, HIGH}) {
            Scene.FRESH.due(BAD, "step", bad);
            Scene.WORN_AND_TAPE.due(BAD, "step", bad);
        }
    }

    /** "till it is HOME: how many MOVES were done" */
    static void p15TillItIsHome() {
        String two = "0 1;0 2;0 3,1 9";
        Check.due("1 of 2", Check.made(two).step(1), 1);
        Check.due("2 of 2", Check.made(two).step(2), 2);
        Check.due("3 of 2", Check.made(two).step(3), 2);
        ShopFloor x = Check.made(two);
        Check.due("30 of 2", x.step(30), 2);
        Check.due("span", x.span(), 12);
        Check.due("moves so far", x.count(5), 2);
        Check.due("changes", x.count(3), 2);
        Check.due("home", x.step(1), 0);
    }

    /** "Are there no MOVES, it is HOME: nothing is done (but LEAST, BEST)" */
    static void p15HomeDoesNothing() {
        ShopFloor x = Check.made(Scene.HOMES);
        x.turn(0, 0);
        x.undo();
        Check.due("home", x.step(30), 0);
        Check.due("least is looked for", x.best(0), 15);
        Check.due("no change", x.count(3), 0);
        Check.due("may be done again", x.count(4), 1);
        Check.due("no move", x.count(5), 0);
        Check.kept(x);
        Check.order(x, 0, 0, 1, 2);
        Check.due("best is looked for", x.best(1), 15);
    }

    /** "BAD; STATE; RING" */
    static void p15StateRing() {
        Scene.BARE.due(BAD, "step", 0);
        Scene.BARE.due(BAD, "step", 31);
        Scene.BARE.due(STATE, "step", 1);
        Scene.BARE.due(STATE, "step", 30);
        Scene.RINGED.due(BAD, "step", 0);
        Scene.RINGED.due(BAD, "step", 31);
        Scene.RINGED.due(RING, "step", 1);
        Scene.RINGED.due(RING, "step", 30);
    }

    /** "of the others that which BRINGS least, of like ones the first, is done" */
    static void p15BringsLeastTheFirst() {
        ShopFloor least = Check.made(Scene.THREE);
        Check.due("the second brings less", least.brings(1, 1) < least.brings(0, 1) ? 1 : 0, 1);
        least.step(1);
        Check.kept(least, 605);
        ShopFloor like = Check.made("1 1;1 4,0 4;0 3;0 2,1 4");
        Check.moves(like, 1, 203, 304);
        dueBrings(like, 1, 15, 15, 0);
        dueBrings(like, 2, 15, 15, 0);
        like.step(1);
        Check.kept(like, 302);
    }

    /** "those kept are left out": one that brings more is done, if it alone is not kept */
    static void p15KeptAreLeftOut() {
        ShopFloor x = Check.made(BOTH_KEPT);
        Check.due("one", x.step(1), 1);
        Check.moves(x, 2, 301);
        Check.due("brings 7", x.brings(0, 1), 7);
        x.tabu(4);
        Check.due("one", x.step(1), 1);
        Check.kept(x, 200);
        Check.due("one, all left out", x.step(1), 1);
        Check.moves(x, 2, 301);
        dueBrings(x, 0, 7, 7, 1);
        dueBrings(x, 1, 9, 9, 0);
        Check.due("one, though it brings more", x.step(1), 1);
        Check.due("span", x.span(), 9);
        Check.kept(x, 200, 2, 103);
    }

    /** "unless they would BRING less than LEAST": as much is left out, less is done */
    static void p15UnlessLessThanLeast() {
        ShopFloor equal = Check.made(BOTH_KEPT);
        equal.step(3);
        Check.due("least", equal.best(0), 7);
        Check.moves(equal, 2, 301);
        dueBrings(equal, 0, 7, 7, 1);
        dueBrings(equal, 1, 9, 9, 1);
        equal.step(1);
        Check.due("not the one that brings as much", equal.span(), 9);
        ShopFloor less = Check.made(RELEASED);
        less.step(2);
        less.turn(2, 0);
        Check.due("least", less.best(0), 20);
        Check.moves(less, 301, 205);
        Check.due("brings", less.brings(0, 1), 19);
        Check.due("kept", less.brings(0, 2), 1);
        Check.due("brings", less.brings(1, 1), 22);
        Check.due("not kept", less.brings(1, 2), 0);
        less.step(1);
        Check.due("the one that brings less", less.span(), 19);
        Check.due("least now", less.best(0), 19);
    }

    /** "if all are left out, that of them which is kept longest" */
    static void p15AllLeftOutTheOneKeptLongest() {
        ShopFloor x = Check.made(BOTH_KEPT);
        x.step(3);
        Check.kept(x, 301, 200, 2);
        Check.moves(x, 2, 301);
        x.step(1);
        Check.kept(x, 301, 200, 2, 103);
        Check.order(x, 0, 1, 3);
        // Here it is the first on the way, though the other one brings less.
        ShopFloor first = Check.made("0 3,1 1;0 5,1 4");
        first.step(3);
        Check.kept(first, 200, 301, 103);
        Check.moves(first, 200, 103);
        dueBrings(first, 0, 12, 12, 1);
        dueBrings(first, 1, 10, 10, 1);
        Check.due("least", first.best(0), 10);
        first.step(1);
        Check.due("the first", first.span(), 12);
        // And here the one between.
        ShopFloor between = Check.made("0 5,1 3,2 5;0 2,1 3,2 5");
        between.step(5);
        Check.kept(between, 401, 300, 3, 205);
        Check.moves(between, 3, 401, 205);
        Check.due("least", between.best(0), 15);
        between.step(1);
        Check.due("the one between", between.span(), 18);
        Check.kept(between, 300, 3, 205, 104);
    }

    /** "LEAST behind a STEP is looked at as soon as its MOVE is done": within one call, too */
    static void p15LeastWithinOneCall() {
        ShopFloor at = Check.made(BOTH_KEPT);
        at.step(4);
        ShopFloor one = Check.made(BOTH_KEPT);
        for (int i = 0; i < 4; i++) one.step(1);
        Check.same("kept", Probe.row(at::kept), Probe.row(one::kept));
        Check.due("span", at.span(), 9);
        Check.due("least between", at.best(0), 7);
    }

    /** "the next STEP looks at SPAN as it is then": behind turns by hand */
    static void p15LooksAtSpanAsItIsThen() {
        ShopFloor x = Check.made(Scene.HOMES);
        x.step(1);
        Check.due("least", x.best(0), 15);
        x.turn(0, 0);
        Check.due("turned", x.turn(0, 1), 14);
        Check.due("by hand it stays", x.best(0), 15);
        Check.due("home", x.step(1), 0);
        Check.due("looked at", x.best(0), 14);
    }

    // ---- Promise 16: kept

    /** "(the latest T, 0 .. 9": the T-th is kept, one more takes off the one kept longest */
    static void p16TheLatestT() {
        for (int t = 0; t <= 9; t++) {
            ShopFloor x = Check.made(LARGE);
            x.tabu(t);
            List<Integer> want = new ArrayList<>();
            boolean tookOff = false;
            int[] places = places(x);
            for (int i = 0; i < 12 && x.step(1) == 1; i++) {
                int[] now = places(x);
                Integer undoing = moveBack(places, now);
                places = now;
                want.remove(undoing);
                want.add(undoing);
                if (want.size() > t) {
                    want.remove(0);
                    tookOff = true;
                }
                Check.kept(x, want.toArray(new Integer[0]));
                Check.due("behind them", x.kept(want.size()), NOT);
            }
            Check.due("T " + t + " kept", want.size(), t);
            Check.due("T " + t + " was too few", tookOff ? 1 : 0, 1);
        }
    }

    private static int[] places(ShopFloor x) {
        int[] places = new int[x.count(1)];
        for (int t = 0; t < places.length; t++) places[t] = x.task(t, 4);
        return places;
    }

    /** The MOVE that would undo what one step did, by the places ahead of it and behind. */
    private static int moveBack(int[] places, int[] now) {
        int ahead = -1;
        int behind = -1;
        for (int t = 0; t < places.length; t++) {
            ahead = now[t] < places[t] ? t : ahead;
            behind = now[t] > places[t] ? t : behind;
        }
        return 100 * ahead + behind;
    }

    /** "one that is kept already is kept anew, as the latest" */
    static void p16KeptAnewAsTheLatest() {
        ShopFloor x = Check.made(Scene.FRO);
        x.step(2);
        Check.kept(x, 200, 2);
        x.step(1);
        Check.kept(x, 2, 200);
        x.step(1);
        Check.kept(x, 200, 2);
        ShopFloor two = Check.made(Scene.FRO);
        two.tabu(2);
        two.step(3);
        Check.kept(two, 2, 200);
        ShopFloor one = Check.made(Scene.FRO);
        one.tabu(1);
        one.step(3);
        Check.kept(one, 200);
    }

    /** "The i-th that TABU keeps (from 0 ..); i -1: how many. BAD; NOT." */
    static void p16I() {
        Scene kept = new Scene("two kept").shop(Scene.FRO).then(x -> x.step(2));
        kept.due(2, "kept", -1);
        kept.due(BAD, "kept", -2);
        kept.due(BAD, "kept", LOW);
        kept.due(200, "kept", 0);
        kept.due(2, "kept", 1);
        kept.due(NOT, "kept", 2);
        kept.due(NOT, "kept", HIGH);
        Scene.FRESH.due(0, "kept", -1);
        Scene.FRESH.due(NOT, "kept", 0);
    }

    /** "BAD; NOT": neither STATE without a SHOP nor RING in a ring */
    static void p16NeitherStateNorRing() {
        Scene.BARE.due(0, "kept", -1);
        Scene.BARE.due(NOT, "kept", 0);
        Scene.BARE.due(BAD, "kept", -2);
        Scene.RINGED.due(1, "kept", -1);
        Scene.RINGED.due(201, "kept", 0);
        Scene.RINGED.due(NOT, "kept", 1);
        Scene.RINGED.due(BAD, "kept", -2);
    }

    // ---- Promise 17: best

    /** "LEAST (what 0 ..), BEST becomes the ORDERS (1" */
    static void p17What0To1() {
        for (int bad : new int[] {-1, 2, LOW, HIGH}) {
            Scene.BARE.due(BAD, "best", bad);
            Scene.FRESH.due(BAD, "best", bad);
            Scene.WORN_AND_TAPE.due(BAD, "best", bad);
            Scene.RINGED.due(BAD, "best", bad);
        }
        Scene.RINGED.due(7, "best", 0);
        Check.due("1", Scene.RINGED.made().best(1), 7);
    }

    /** "BAD; STATE; NOT" ("there was no STEP") */
    static void p17StateNot() {
        Scene.BARE.due(STATE, "best", 0);
        Scene.BARE.due(STATE, "best", 1);
        Scene.FRESH.due(NOT, "best", 0);
        Scene.FRESH.due(NOT, "best", 1);
        Scene refused = Scene.FRESH.then(x -> x.step(31));
        refused.due(NOT, "best", 0);
        refused.due(NOT, "best", 1);
        Scene byHand = Scene.FRESH.then(x -> x.does(0));
        byHand.due(NOT, "best", 0);
        byHand.due(NOT, "best", 1);
        Scene ringed = new Scene("a step in a ring").shop(Scene.CROSS).then(x -> x.turn(0, 0)).then(x -> x.step(1));
        ringed.due(NOT, "best", 0);
        ringed.due(NOT, "best", 1);
    }

    /** "LEAST: the least SPAN that there was ahead of a STEP, or behind one" */
    static void p17AheadOfAStepOrBehindOne() {
        ShopFloor ahead = Check.made("0 9,1 2;1 4,2 9;3 20");
        Check.due("span", ahead.span(), 24);
        ahead.does(0);
        Check.due("span", ahead.span(), 20);
        ahead.step(1);
        Check.due("ahead", ahead.best(0), 20);
        ShopFloor behind = Check.made(Scene.CROSS);
        behind.step(1);
        Check.due("behind", behind.best(0), 7);
        ShopFloor worse = Check.made(RELEASED);
        worse.step(2);
        Check.due("span", worse.span(), 24);
        Check.due("between", worse.best(0), 20);
    }

    /** "BEST: the ORDERS then (the first time)" */
    static void p17BestOfTheFirstTime() {
        ShopFloor x = Check.made(Scene.FRO);
        x.step(1);
        Check.due("as much", x.span(), 13);
        Check.due("best", x.best(1), 13);
        Check.order(x, 0, 0, 2);
        ShopFloor y = Check.made(Scene.FRO);
        y.turn(0, 0);
        y.step(1);
        y.best(1);
        Check.order(y, 0, 2, 0);
        ShopFloor home = Check.made(Scene.HOMES);
        home.step(1);
        Check.due("as much", home.turn(0, 0), 15);
        home.step(1);
        Check.due("less", home.best(0), 14);
        home.best(1);
        Check.order(home, 0, 1, 2, 0);
    }

    /** "since a SHOP or T was told, or an IMAGE laid back": what was less ahead of that counts no more */
    static void p17SinceAShopOrTOrAnImage() {
        Scene less = new Scene("14, then 15").shop(Scene.HOMES).then(x -> {
            x.image();
            x.turn(0, 0);
            x.turn(0, 1);
            x.step(1);
            x.undo();
            x.undo();
        });
        less.due(14, "best", 0);
        less.then(x -> x.step(1)).due(14, "best", 0);
        Scene t = less.then(x -> x.tabu(4));
        t.due(NOT, "best", 0);
        t.then(x -> x.step(1)).due(15, "best", 0);
        Scene back = less.then(ShopFloor::back);
        back.due(NOT, "best", 0);
        back.then(x -> x.step(1)).due(15, "best", 0);
        Scene shop = less.shop(Scene.HOMES);
        shop.due(NOT, "best", 0);
        shop.then(x -> x.step(1)).due(15, "best", 0);
        Scene fault = less.shop("0 0");
        fault.due(14, "best", 0);
    }

    /** "SPAN then; a CHANGE, maybe of nothing", "best(1) leaves LEAST, BEST as they are" */
    static void p17AChangeMaybeOfNothing() {
        ShopFloor x = Check.made(Scene.CROSS);
        x.step(1);
        Check.due("one", x.count(3), 1);
        Check.due("of nothing", x.best(1), 7);
        Check.due("two", x.count(3), 2);
        Check.due("again", x.best(1), 7);
        Check.due("three", x.count(3), 3);
        Check.due("least stays", x.best(0), 7);
        Check.due("undone", x.undo(), 2);
        Check.due("the same", x.span(), 7);
        x.turn(1, 0);
        Check.due("by hand", x.span(), 10);
        Check.due("best stays", x.best(1), 7);
        x.undo();
        Check.due("undone", x.span(), 10);
    }

    /** LEAST and BEST are told in a RING, too ("BAD; STATE; NOT" alone) */
    static void p17InARing() {
        ShopFloor x = Scene.RINGED.made();
        Check.due("ring", x.span(), RING);
        Check.due("least", x.best(0), 7);
        Check.due("best", x.best(1), 7);
        Check.due("out of it", x.span(), 7);
    }
}

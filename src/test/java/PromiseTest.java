/** Each promise of the document by its number: ordinary inputs, the edges it names, wrong inputs. */
public final class PromiseTest {
    private static final int LOW = Integer.MIN_VALUE;
    private static final int HIGH = Integer.MAX_VALUE;
    private static final int BAD = -1, NOT = -2, FULL = -3, RING = -4, STATE = -5, LONG = -7;
    /** Three jobs; the best span is 11. */
    private static final String THREE = "0 3,1 2,2 2;0 2,2 1,1 4;1 4,2 3";
    /** Two jobs that meet on machines 0 and 1 the other way round. */
    private static final String CROSS = "0 1,1 2;1 3,0 4";
    /** Whichever is first on machine 0, the span is 13, and the other one is the last. */
    private static final String FRO = "0 2,1 9;0 2,2 9";
    private static final String SEVEN_ON_ONE = "0 1,0 1,0 1,0 1,0 1,0 1;0 1";

    public static void main(String[] args) {
        p01NewObject();
        p02Feed();
        p03Shop();
        p03Faults();
        p04Task();
        p05Order();
        p06Turn();
        p07Span();
        p08Of();
        p09Way();
        p10Block();
        p11Move();
        p11MovesOfBlocks();
        p12Brings();
        p13Does();
        p14Tabu();
        p15Step();
        p15StepLeavesOut();
        p16Kept();
        p17Best();
        p18Dispatch();
        p19Would();
        p20Machine();
        p21Bound();
        p22All();
        p23Chart();
        p24Undo();
        p25Redo();
        p26Image();
        p27Back();
        p28Count();
        Check.end();
    }

    private static void due(String call, long got, long want) {
        Check.due(call, got, want);
    }

    /** CROSS with the second task of job 1 ahead of the first of job 0: they wait all round. */
    private static ShopFloor ringed() {
        ShopFloor x = Check.made(CROSS);
        due("turn to a ring", x.turn(0, 0), RING);
        return x;
    }

    private static void dueWay(ShopFloor x, int... tasks) {
        due("way(-1)", x.way(-1), tasks.length);
        for (int k = 0; k < tasks.length; k++) due("way(" + k + ")", x.way(k), tasks[k]);
    }

    private static void dueOrder(ShopFloor x, int machine, int... tasks) {
        due("order(" + machine + ", -1)", x.order(machine, -1), tasks.length);
        for (int k = 0; k < tasks.length; k++) due("order(" + machine + ", " + k + ")", x.order(machine, k), tasks[k]);
    }

    private static void dueMoves(ShopFloor x, int... moves) {
        due("move(-1)", x.move(-1), moves.length);
        for (int k = 0; k < moves.length; k++) due("move(" + k + ")", x.move(k), moves[k]);
        due("move behind the last", x.move(moves.length), NOT);
    }

    private static void dueKept(ShopFloor x, int... moves) {
        due("kept(-1)", x.kept(-1), moves.length);
        for (int i = 0; i < moves.length; i++) due("kept(" + i + ")", x.kept(i), moves[i]);
        due("kept behind the last", x.kept(moves.length), NOT);
    }

    private static void p01NewObject() {
        ShopFloor x = new ShopFloor();
        due("1: span", x.span(), STATE);
        due("1: task", x.task(0, 0), BAD);
        due("1: of", x.of(0, 0), BAD);
        due("1: way", x.way(-1), STATE);
        due("1: kept", x.kept(-1), 0);
        due("1: T", x.tabu(4), 4);
        for (int w = 0; w < 6; w++) due("1: count(" + w + ")", x.count(w), 0);
        due("1: undo", x.undo(), STATE);
        due("1: redo", x.redo(), STATE);
        due("1: image", x.image(), STATE);
        due("1: back", x.back(), STATE);
        due("1: bound", x.bound(), STATE);
    }

    private static void p02Feed() {
        ShopFloor x = new ShopFloor();
        for (int bad : new int[] {31, 127, 0, 10, -1, LOW, HIGH, 304}) due("2: feed " + bad, x.feed(bad), BAD);
        due("2: none came", x.count(2), 0);
        due("2: the least", x.feed(32), 1);
        due("2: the greatest", x.feed(126), 2);
        for (int n = 3; n <= 140; n++) due("2: feed", x.feed(65), n);
        due("2: full", x.feed(65), FULL);
        due("2: bad ahead of full", x.feed(127), BAD);
        due("2: 140 bytes", x.count(2), 140);
    }

    private static void p03Shop() {
        ShopFloor x = new ShopFloor();
        due("3: one task", Check.shop(x, "4 99"), 1);
        due("3: its span", x.span(), 99);
        due("3: tape is empty", x.count(2), 0);
        due("3: eight", Check.shop(x, THREE), 8);
        x.tabu(2);
        x.step(3);
        x.turn(0, 0);
        due("3: a fault", Check.shop(x, "0 1,"), -104);
        due("3: tape is empty", x.count(2), 0);
        due("3: the shop stays", x.count(1), 8);
        due("3: changes stay", x.count(3), 4);
        due("3: kept stays", x.kept(-1), 2);
        due("3: least stays", x.best(0) > 0 ? 1 : 0, 1);
        due("3: a new one", Check.shop(x, CROSS), 4);
        due("3: no changes", x.count(3), 0);
        due("3: nothing kept", x.kept(-1), 0);
        due("3: no least", x.best(0), NOT);
        due("3: no best", x.best(1), NOT);
        due("3: T stays", x.tabu(4), 2);
        dueOrder(x, 0, 0, 3);
        dueOrder(x, 1, 1, 2);
        String most = "0 99,1 99,2 99,3 99,4 99,0 99";
        due("3: 24 tasks", Check.shop(x, most + ";" + most + ";" + most + ";" + most), 24);
        due("3: six jobs", Check.shop(x, "0 1;0 1;0 1;0 1;0 1;0 1"), 6);
    }

    private static void fault(String text, int at) {
        ShopFloor x = new ShopFloor();
        due("3: \"" + text + "\"", Check.shop(x, text), -100 - at);
        due("3: no shop by a fault", x.span(), STATE);
        due("3: tape is empty by a fault", x.count(2), 0);
    }

    private static void p03Faults() {
        fault("", 0);
        fault("5 1", 0);
        fault(" ", 0);
        fault("0", 1);
        fault("0,", 1);
        fault("00 1", 1);
        fault("0 ", 2);
        fault("0  1", 2);
        fault("0 0", 2);
        fault("0 09", 2);
        fault("0 100", 4);
        fault("0 1 ", 3);
        fault("0 12x", 4);
        fault("0 1,", 4);
        fault("0 1;", 4);
        fault("0 1,;", 4);
        fault("0 1;;", 4);
        fault("0 1,5 1", 4);
        String six = "0 1,0 1,0 1,0 1,0 1,0 1";
        fault(six + ",", 24);
        fault(six + ",0 1", 24);
        fault(six + "x", 23);
        String sixJobs = "0 1;0 1;0 1;0 1;0 1;0 1";
        fault(sixJobs + ";", 24);
        fault(sixJobs + ";0 1", 24);
        fault(sixJobs + ";;", 24);
        String full = six + ";" + six + ";" + six + ";" + six;
        fault(full + ";0 1", 96);
        fault(full + ";x", 96);
        fault(full + ";", 96);
        String four = "0 1,0 1,0 1,0 1,0 1";
        String twentyFour = four + ";" + four + ";" + four + ";" + four + ";0 1,0 1,0 1,0 1";
        fault(twentyFour + ",0 1", 96);
        due("3: 24 tasks of five jobs", Check.shop(new ShopFloor(), twentyFour), 24);
    }

    private static void p04Task() {
        ShopFloor x = Check.made(THREE);
        int[] want = {1, 2, 1, 4, 1};
        for (int w = 0; w < 5; w++) due("4: task(5, " + w + ")", x.task(5, w), want[w]);
        due("4: place of 0", x.task(0, 1), 0);
        due("4: lasts of 0", x.task(0, 3), 3);
        x.turn(1, 0);
        due("4: place in the order", x.task(5, 4), 0);
        due("4: place in the order", x.task(1, 4), 1);
        due("4: t 8", x.task(8, 0), BAD);
        due("4: t -1", x.task(-1, 0), BAD);
        due("4: what 5", x.task(0, 5), BAD);
        due("4: what -1", x.task(0, -1), BAD);
        due("4: t high", x.task(HIGH, 0), BAD);
        due("4: t low", x.task(LOW, 0), BAD);
        due("4: in a ring", ringed().task(3, 4), 0);
        due("4: no shop", new ShopFloor().task(0, 0), BAD);
    }

    private static void p05Order() {
        ShopFloor x = Check.made(THREE);
        dueOrder(x, 0, 0, 3);
        dueOrder(x, 1, 1, 5, 6);
        dueOrder(x, 2, 2, 4, 7);
        dueOrder(x, 3);
        dueOrder(x, 4);
        due("5: not as many", x.order(1, 3), NOT);
        due("5: not as many", x.order(4, HIGH), NOT);
        due("5: machine 5", x.order(5, 0), BAD);
        due("5: machine -1", x.order(-1, 0), BAD);
        due("5: k -2", x.order(0, -2), BAD);
        due("5: no shop", new ShopFloor().order(0, -1), STATE);
        due("5: bad ahead of no shop", new ShopFloor().order(5, -1), BAD);
        dueOrder(ringed(), 0, 3, 0);
    }

    private static void p06Turn() {
        ShopFloor x = Check.made(CROSS);
        due("6: span at first", x.span(), 10);
        due("6: turned", x.turn(1, 0), 7);
        dueOrder(x, 1, 2, 1);
        due("6: a change", x.count(3), 1);
        due("6: turned the other", x.turn(0, 0), 10);
        due("6: ring", x.turn(1, 0), RING);
        dueOrder(x, 1, 1, 2);
        due("6: done all the same", x.count(3), 3);
        due("6: out of it", x.turn(0, 0), 10);
        due("6: no next", x.turn(0, 1), BAD);
        due("6: none there", x.turn(2, 0), BAD);
        due("6: k -1", x.turn(0, -1), BAD);
        due("6: k high", x.turn(0, HIGH), BAD);
        due("6: machine 5", x.turn(5, 0), BAD);
        due("6: machine -1", x.turn(-1, 0), BAD);
        due("6: no change by bad", x.count(3), 4);
        due("6: no shop", new ShopFloor().turn(0, 0), BAD);
        ShopFloor third = Check.made(THREE);
        due("6: the second and the third", third.turn(1, 1), 13);
        dueOrder(third, 1, 1, 6, 5);
        dueOrder(third, 0, 0, 3);
        ShopFloor own = Check.made("0 1,0 2");
        due("6: two of one job", own.turn(0, 0), RING);
    }

    private static void p07Span() {
        due("7: three", Check.made(THREE).span(), 19);
        due("7: cross", Check.made(CROSS).span(), 10);
        due("7: unlike machines", Check.made("0 5;1 7;2 6").span(), 7);
        due("7: one machine", Check.made("0 5;0 7;0 6").span(), 18);
        due("7: no shop", new ShopFloor().span(), STATE);
        due("7: ring", ringed().span(), RING);
    }

    private static void p08Of() {
        ShopFloor x = Check.made(THREE);
        int[][] want = {{0, 16, 0, 1}, {3, 14, 0, 1}, {5, 12, 0, 1}, {3, 12, 2, 0}, {7, 11, 0, 1}, {8, 7, 0, 1},
            {12, 3, 0, 1}, {16, 0, 0, 1}};
        for (int t = 0; t < 8; t++) {
            for (int w = 0; w < 4; w++) due("8: of(" + t + ", " + w + ")", x.of(t, w), want[t][w]);
        }
        due("8: t 8", x.of(8, 0), BAD);
        due("8: t -1", x.of(-1, 0), BAD);
        due("8: what 4", x.of(0, 4), BAD);
        due("8: what -1", x.of(0, -1), BAD);
        due("8: no shop, so no task", new ShopFloor().of(0, 0), BAD);
        due("8: ring", ringed().of(0, 3), RING);
        due("8: bad ahead of ring", ringed().of(4, 3), BAD);
    }

    private static void p09Way() {
        ShopFloor x = Check.made(THREE);
        dueWay(x, 0, 1, 2, 4, 5, 6, 7);
        due("9: behind it", x.way(7), NOT);
        due("9: high", x.way(HIGH), NOT);
        due("9: -2", x.way(-2), BAD);
        due("9: low", x.way(LOW), BAD);
        due("9: no shop", new ShopFloor().way(0), STATE);
        due("9: bad ahead of no shop", new ShopFloor().way(-2), BAD);
        due("9: ring", ringed().way(-1), RING);
        // Both jobs are critical: the least number that starts at 0, and job's next ahead of the order's.
        dueWay(Check.made("0 2,1 3;2 2,3 3"), 0, 1);
        dueWay(Check.made("0 2,1 3;0 3"), 0, 1);
        // Task 1 ends at SPAN as 2 does, behind 0; 2 by the order has the greater number.
        ShopFloor turned = Check.made("0 2;0 1,1 4");
        due("9: turned", turned.turn(0, 0), 5);
        dueWay(turned, 1, 2);
        // Behind 2 both wait: 0 by the order, 3 by its job; 0 is the least number.
        ShopFloor both = Check.made("0 3;1 3;0 2,2 3");
        due("9: first turned", both.turn(0, 0), 5);
        dueWay(both, 2, 0);
    }

    private static void p10Block() {
        ShopFloor x = Check.made(THREE);
        due("10: how many", x.block(-1), 5);
        int[] sizes = {1, 1, 2, 2, 1};
        for (int b = 0; b < 5; b++) due("10: block " + b, x.block(b), sizes[b]);
        due("10: behind them", x.block(5), NOT);
        due("10: high", x.block(HIGH), NOT);
        due("10: -2", x.block(-2), BAD);
        due("10: no shop", new ShopFloor().block(-1), STATE);
        due("10: ring", ringed().block(0), RING);
        ShopFloor one = Check.made("0 1;0 2;0 3");
        due("10: one alone", one.block(-1), 1);
        due("10: all three", one.block(0), 3);
        // Tasks of one job side by side on one machine are one block, too.
        ShopFloor own = Check.made("0 1,0 2,1 3");
        due("10: own job", own.block(-1), 2);
        due("10: own job's two", own.block(0), 2);
    }

    private static void p11Move() {
        ShopFloor x = Check.made(THREE);
        dueMoves(x, 204, 506);
        due("11: high", x.move(HIGH), NOT);
        due("11: -2", x.move(-2), BAD);
        due("11: no shop", new ShopFloor().move(-1), STATE);
        due("11: bad ahead of no shop", new ShopFloor().move(-2), BAD);
        due("11: ring", ringed().move(0), RING);
    }

    private static void p11MovesOfBlocks() {
        // One block alone has none.
        dueMoves(Check.made("0 1;0 2;0 3"));
        // First block 0, 1, 2: just its last two; the last block is one task.
        ShopFloor first = Check.made("0 1;0 2;0 3,1 9");
        dueWay(first, 0, 1, 2, 3);
        dueMoves(first, 102);
        // Last block 1, 2, 3: just its first two.
        ShopFloor last = Check.made("0 1,1 2;1 3;1 4");
        dueWay(last, 0, 1, 2, 3);
        dueMoves(last, 102);
        // A middle block of four: its first two and its last two.
        ShopFloor middle = Check.made("0 9,1 2;1 3;1 4;1 5,2 9");
        dueWay(middle, 0, 1, 2, 3, 4, 5);
        dueMoves(middle, 102, 304);
        // A middle block of three: two that share one; of two: once.
        dueMoves(Check.made("0 9,1 2;1 3;1 4,2 9"), 102, 203);
        dueMoves(Check.made("0 9,1 2;1 4,2 9"), 102);
        // Neighbours of one job may not.
        dueMoves(Check.made("0 9,1 2,1 3,2 9"));
        dueMoves(Check.made("0 9,1 2,1 3;1 4,2 9"), 203);
    }

    private static void p12Brings() {
        ShopFloor x = Check.made(THREE);
        int[][] want = {{17, 17, 0}, {13, 13, 0}};
        for (int k = 0; k < 2; k++) {
            for (int w = 0; w < 3; w++) due("12: brings(" + k + ", " + w + ")", x.brings(k, w), want[k][w]);
        }
        due("12: changes nothing", x.span(), 19);
        due("12: no change", x.count(3), 0);
        due("12: behind them", x.brings(2, 0), NOT);
        due("12: k -1 tells no number", x.brings(-1, 0), BAD);
        due("12: what 3", x.brings(0, 3), BAD);
        due("12: what -1", x.brings(0, -1), BAD);
        due("12: no shop", new ShopFloor().brings(0, 0), STATE);
        due("12: bad ahead of no shop", new ShopFloor().brings(-1, 0), BAD);
        due("12: ring", ringed().brings(0, 0), RING);
        // What a move brings is above AT LEAST, where the longest way then passes by both.
        ShopFloor other = Check.made("0 9,1 2;1 4,2 9;3 20");
        due("12: other moves", other.move(0), 102);
        // 2 starts at 0, 1 behind 0 at 9: 13 through 2, 3; 11 through 1.
        due("12: at least", other.brings(0, 0), 13);
        due("12: brings", other.brings(0, 1), 20);
    }

    private static void p13Does() {
        ShopFloor x = Check.made(THREE);
        due("13: the first", x.does(0), 17);
        dueOrder(x, 2, 4, 2, 7);
        due("13: a change", x.count(3), 1);
        due("13: no step", x.count(5), 0);
        due("13: tabu stays", x.kept(-1), 0);
        due("13: no least", x.best(0), NOT);
        due("13: k -1", x.does(-1), BAD);
        due("13: k high", x.does(HIGH), NOT);
        due("13: behind the last", x.does(x.move(-1)), NOT);
        due("13: no change by these", x.count(3), 1);
        due("13: no shop", new ShopFloor().does(0), STATE);
        due("13: bad ahead of no shop", new ShopFloor().does(-1), BAD);
        due("13: ring", ringed().does(0), RING);
    }

    private static void p14Tabu() {
        ShopFloor x = Check.made(THREE);
        due("14: 4 at first", x.tabu(9), 4);
        x.step(5);
        due("14: kept", x.kept(-1), 5);
        due("14: bad", x.tabu(10), BAD);
        due("14: bad", x.tabu(-1), BAD);
        due("14: bad changes nothing", x.kept(-1), 5);
        due("14: least stays by bad", x.best(0) > 0 ? 1 : 0, 1);
        due("14: as it is", x.tabu(9), 9);
        due("14: nothing kept", x.kept(-1), 0);
        due("14: no least", x.best(0), NOT);
        due("14: no best", x.best(1), NOT);
        due("14: changes stay", x.count(3), 5);
        due("14: 0", x.tabu(0), 9);
        due("14: without a shop", new ShopFloor().tabu(0), 4);
    }

    private static void p15Step() {
        ShopFloor x = Check.made(THREE);
        due("15: one", x.step(1), 1);
        // 506 brings 13, 204 but 17.
        due("15: the one that brings least", x.span(), 13);
        dueKept(x, 605);
        due("15: a change each", x.count(3), 1);
        due("15: six", x.step(6), 6);
        due("15: a change each", x.count(3), 7);
        due("15: so far", x.count(5), 7);
        due("15: n 0", x.step(0), BAD);
        due("15: n 31", x.step(31), BAD);
        due("15: n low", x.step(LOW), BAD);
        due("15: no shop", new ShopFloor().step(1), STATE);
        due("15: bad ahead of no shop", new ShopFloor().step(31), BAD);
        due("15: ring", ringed().step(1), RING);
        ShopFloor home = Check.made("0 1;0 2;0 3");
        due("15: home", home.step(30), 0);
        due("15: home looks for least", home.best(0), 6);
        due("15: home is no change", home.count(3), 0);
        home.turn(0, 0);
        home.undo();
        due("15: home", home.step(1), 0);
        due("15: home takes off nothing that may be done again", home.count(4), 1);
        ShopFloor till = Check.made("0 1;0 2;0 3,1 9");
        // 2 gets ahead of 1 and 0; then it alone is the first block.
        due("15: till it is home", till.step(30), 2);
        due("15: till it is home", till.span(), 12);
    }

    private static void p15StepLeavesOut() {
        // One move to and fro: it is kept each time, so all are left out, and the one kept longest is done.
        ShopFloor fro = Check.made(FRO);
        due("15: span of four", fro.span(), 13);
        dueMoves(fro, 2);
        due("15: first step", fro.step(1), 1);
        dueKept(fro, 200);
        dueMoves(fro, 200);
        due("15: is kept", fro.brings(0, 2), 1);
        due("15: all left out", fro.step(1), 1);
        dueKept(fro, 200, 2);
        due("15: again", fro.step(3), 3);
        dueKept(fro, 2, 200);
        // Two moves, both kept: not the one that brings less, nor the first, but the one kept longest.
        ShopFloor two = Check.made("2 3,0 3;2 1,0 3");
        due("15: three steps", two.step(3), 3);
        dueKept(two, 301, 200, 2);
        dueMoves(two, 2, 301);
        due("15: brings no less than least", two.brings(0, 1), 7);
        due("15: least", two.best(0), 7);
        due("15: one more", two.step(1), 1);
        due("15: the one kept longest is done", two.span(), 9);
        dueKept(two, 301, 200, 2, 103);
        // Of like ones the first.
        ShopFloor like = Check.made("1 1;1 4,0 4;0 3;0 2,1 4");
        dueMoves(like, 1, 203, 304);
        int[] brought = {17, 15, 15};
        for (int k = 0; k < 3; k++) due("15: brings " + k, like.brings(k, 1), brought[k]);
        due("15: of like ones", like.step(1), 1);
        dueKept(like, 302);
        // A kept move is done, if it brings less than LEAST.
        ShopFloor less = Check.made("1 6,2 6,0 5;2 5;2 6,0 2");
        due("15: two steps", less.step(2), 2);
        due("15: least", less.best(0), 20);
        due("15: turned by hand", less.turn(2, 0), 24);
        dueMoves(less, 301, 205);
        due("15: kept", less.brings(0, 2), 1);
        due("15: brings less than least", less.brings(0, 1), 19);
        due("15: not kept", less.brings(1, 2), 0);
        due("15: brings more", less.brings(1, 1), 22);
        due("15: released", less.step(1), 1);
        due("15: least now", less.best(0), 19);
    }

    private static void p16Kept() {
        ShopFloor x = Check.made(THREE);
        dueKept(x);
        x.step(1);
        dueKept(x, 605);
        x.tabu(2);
        x.step(3);
        due("16: two at most", x.kept(-1), 2);
        due("16: high", x.kept(HIGH), NOT);
        due("16: -2", x.kept(-2), BAD);
        due("16: no shop", new ShopFloor().kept(0), NOT);
        due("16: no shop", new ShopFloor().kept(-2), BAD);
        x.tabu(0);
        x.step(3);
        dueKept(x);
        // The same two to and fro: each is kept anew, as the latest.
        ShopFloor fro = Check.made(FRO);
        fro.step(2);
        dueKept(fro, 200, 2);
        fro.step(1);
        dueKept(fro, 2, 200);
        fro.tabu(1);
        fro.step(2);
        dueKept(fro, 200);
    }

    private static void p17Best() {
        ShopFloor x = Check.made(THREE);
        due("17: no step", x.best(0), NOT);
        due("17: no step", x.best(1), NOT);
        x.step(30);
        due("17: least", x.best(0), 11);
        x.dispatch(1);
        int span = x.span();
        int changes = x.count(3);
        due("17: 11 again", x.best(1), 11);
        due("17: 11 stands", x.span(), 11);
        due("17: a change", x.count(3), Math.min(16, changes + 1));
        x.undo();
        due("17: undone", x.span(), span);
        due("17: least stays", x.best(0), 11);
        due("17: what 2", x.best(2), BAD);
        due("17: what -1", x.best(-1), BAD);
        due("17: no shop", new ShopFloor().best(0), STATE);
        due("17: bad ahead of no shop", new ShopFloor().best(2), BAD);
        ShopFloor ring = Check.made(CROSS);
        ring.step(1);
        int least = ring.best(0);
        ring.best(1);
        due("17: nothing other is a change", ring.count(3), 2);
        for (int i = 0; i < 8 && ring.span() != RING; i++) ring.turn(i % 2, 0);
        due("17: a ring", ring.span(), RING);
        due("17: least in a ring", ring.best(0), least);
        due("17: best out of a ring", ring.best(1), least);
        // LEAST is looked at ahead of a step, too.
        ShopFloor ahead = Check.made(FRO);
        ahead.step(1);
        due("17: ahead of the step", ahead.best(0), 13);
        ahead.best(1);
        dueOrder(ahead, 0, 0, 2);
    }

    private static void p18Dispatch() {
        ShopFloor x = Check.made("0 5;0 2;0 9,1 1");
        due("18: the least", x.dispatch(0), 17);
        dueOrder(x, 0, 1, 0, 2);
        due("18: the most", x.dispatch(1), 16);
        dueOrder(x, 0, 2, 0, 1);
        due("18: most left", x.dispatch(2), 16);
        dueOrder(x, 0, 2, 0, 1);
        due("18: least left", x.dispatch(3), 17);
        dueOrder(x, 0, 1, 0, 2);
        due("18: changes", x.count(3), 4);
        due("18: nothing other is a change, too", x.dispatch(3), 17);
        due("18: changes", x.count(3), 5);
        due("18: rule 4", x.dispatch(4), BAD);
        due("18: rule -1", x.dispatch(-1), BAD);
        due("18: no shop", new ShopFloor().dispatch(0), STATE);
        due("18: bad ahead of no shop", new ShopFloor().dispatch(4), BAD);
        // What is left counts the tasks behind: 0 lasts less, but has more left.
        ShopFloor left = Check.made("0 1,1 9;0 3");
        left.dispatch(2);
        dueOrder(left, 0, 0, 2);
        left.dispatch(3);
        dueOrder(left, 0, 2, 0);
        // Of like ones the least number; what would start first goes ahead of all rules.
        ShopFloor like = Check.made("1 4,0 1;0 3;0 3");
        like.dispatch(0);
        dueOrder(like, 0, 2, 3, 1);
        due("18: out of a ring", ringed().dispatch(0), 7);
    }

    private static void p19Would() {
        ShopFloor x = Check.made("0 5;0 2;0 9,1 1");
        int[] want = {17, 16, 16, 17};
        for (int rule = 0; rule < 4; rule++) due("19: would " + rule, x.would(rule), want[rule]);
        dueOrder(x, 0, 0, 1, 2);
        due("19: no change", x.count(3), 0);
        due("19: rule 4", x.would(4), BAD);
        due("19: rule -1", x.would(-1), BAD);
        due("19: no shop", new ShopFloor().would(0), STATE);
        due("19: in a ring", ringed().would(0), 7);
    }

    private static void p20Machine() {
        ShopFloor x = Check.made(THREE);
        int[] want = {9, 10, 9};
        for (int m = 0; m < 3; m++) {
            due("20: machine " + m, x.machine(m, 0), want[m]);
            due("20: preempted " + m, x.machine(m, 1), want[m]);
        }
        due("20: no task", x.machine(3, 0), NOT);
        due("20: no task", x.machine(3, 1), NOT);
        due("20: machine 5", x.machine(5, 0), BAD);
        due("20: machine -1", x.machine(-1, 0), BAD);
        due("20: how 2", x.machine(0, 2), BAD);
        due("20: how -1", x.machine(0, -1), BAD);
        due("20: no shop", new ShopFloor().machine(0, 0), STATE);
        due("20: bad ahead of no shop", new ShopFloor().machine(0, 2), BAD);
        due("20: in a ring", ringed().machine(0, 0), 7);
        // 0 is begun, given up at tick 1 for 2 with its tail, and gone on with: 1 + 2 + 9.
        ShopFloor cut = Check.made("0 9;1 1,0 2,2 9");
        due("20: cut", cut.machine(0, 1), 12);
        due("20: uncut", cut.machine(0, 0), 12);
        ShopFloor worth = Check.made("0 9,3 1;1 1,0 2,2 4");
        due("20: cut", worth.machine(0, 1), 12);
        due("20: uncut", worth.machine(0, 0), 13);
        // Nothing is there at first.
        due("20: idle", Check.made("1 7,0 2").machine(0, 1), 9);
        ShopFloor seven = Check.made(SEVEN_ON_ONE);
        due("20: seven", seven.machine(0, 0), LONG);
        due("20: seven preempted", seven.machine(0, 1), 7);
        due("20: six", Check.made("0 1,0 1,0 1,0 1,0 1,0 1").machine(0, 0), 6);
    }

    private static void p21Bound() {
        due("21: three", Check.made(THREE).bound(), 10);
        due("21: a job", Check.made("0 5,1 6;0 1").bound(), 11);
        due("21: a job alone", Check.made("0 5,1 6,2 7;3 1").bound(), 18);
        due("21: a machine", Check.made("0 5;0 6;1 9").bound(), 11);
        due("21: no shop", new ShopFloor().bound(), STATE);
        due("21: seven", Check.made(SEVEN_ON_ONE).bound(), LONG);
        due("21: in a ring", ringed().bound(), 7);
        ShopFloor two = Check.made(THREE);
        two.bound();
        Check.shop(two, "0 1");
        due("21: another shop", two.bound(), 1);
    }

    private static void p22All() {
        ShopFloor x = Check.made(CROSS);
        due("22: no ring", x.all(0), 3);
        due("22: least", x.all(1), 7);
        due("22: changes nothing", x.span(), 10);
        due("22: no change", x.count(3), 0);
        due("22: what 2", x.all(2), BAD);
        due("22: what -1", x.all(-1), BAD);
        due("22: no shop", new ShopFloor().all(0), STATE);
        due("22: bad ahead of no shop", new ShopFloor().all(2), BAD);
        due("22: in a ring", ringed().all(0), 3);
        due("22: three", Check.made(THREE).all(1), 11);
        due("22: six of one job", Check.made("0 1,0 1,0 1,0 1,0 1,0 1").all(0), 1);
        due("22: six jobs", Check.made("0 1;0 1;0 1;0 1;0 1;0 1").all(0), 720);
        due("22: seven", Check.made(SEVEN_ON_ONE).all(0), LONG);
        due("22: 120 by 6", Check.made("0 1;0 1;0 1,1 1;0 1,1 1;0 1,1 1").all(0), 720);
        due("22: 720 by 2", Check.made("0 1;0 1;0 1;0 1;0 1,1 1;0 1,1 1").all(1), LONG);
        String six = "0 1,0 1,0 1,0 1,0 1,0 1";
        due("22: 24 on one", Check.made(six + ";" + six + ";" + six + ";" + six).all(0), LONG);
        Check.shop(x, "0 4");
        due("22: another shop", x.all(0), 1);
        due("22: another shop", x.all(1), 4);
    }

    private static void p23Chart() {
        ShopFloor x = Check.made(CROSS);
        x.turn(1, 0);
        String want = "0..1111\n11100..\n.......\n.......\n.......\n";
        due("23: how many", x.chart(-1), want.length());
        for (int i = 0; i < want.length(); i++) due("23: chart(" + i + ")", x.chart(i), want.charAt(i));
        due("23: behind it", x.chart(want.length()), NOT);
        due("23: high", x.chart(HIGH), NOT);
        due("23: -2", x.chart(-2), BAD);
        due("23: no shop", new ShopFloor().chart(-1), STATE);
        due("23: bad ahead of no shop", new ShopFloor().chart(-2), BAD);
        due("23: ring", ringed().chart(-1), RING);
        due("23: bad ahead of ring", ringed().chart(-2), BAD);
    }

    private static void p24Undo() {
        ShopFloor x = Check.made(THREE);
        x.does(0);
        x.step(2);
        x.turn(0, 0);
        x.dispatch(0);
        x.best(1);
        due("24: six changes", x.count(3), 6);
        int kept = x.kept(-1);
        int least = x.best(0);
        for (int n = 5; n >= 0; n--) due("24: undo", x.undo(), n);
        due("24: none", x.undo(), STATE);
        due("24: at first", x.span(), 19);
        due("24: kept stays", x.kept(-1), kept);
        due("24: least stays", x.best(0), least);
        due("24: may be done again", x.count(4), 6);
        for (int n = 0; n < 20; n++) x.turn(0, 0);
        due("24: 16 at most", x.count(3), 16);
        due("24: none behind a new one", x.count(4), 0);
        for (int n = 15; n >= 0; n--) due("24: undo of 16", x.undo(), n);
        due("24: none", x.undo(), STATE);
        dueOrder(x, 0, 0, 3);
        ShopFloor ring = ringed();
        due("24: out of a ring", ring.undo(), 0);
        due("24: span", ring.span(), 10);
    }

    private static void p25Redo() {
        ShopFloor x = Check.made(CROSS);
        due("25: none", x.redo(), STATE);
        x.turn(1, 0);
        x.turn(0, 0);
        x.undo();
        x.undo();
        due("25: one still", x.redo(), 1);
        due("25: span", x.span(), 7);
        due("25: none still", x.redo(), 0);
        dueOrder(x, 0, 3, 0);
        due("25: none", x.redo(), STATE);
        x.undo();
        x.dispatch(0);
        due("25: another came behind", x.redo(), STATE);
        x.undo();
        Check.shop(x, CROSS);
        due("25: a new shop has none", x.redo(), STATE);
        x.turn(0, 0);
        x.undo();
        due("25: into a ring", x.redo(), 0);
        due("25: ring", x.span(), RING);
        due("25: no shop", new ShopFloor().redo(), STATE);
    }

    private static void p26Image() {
        ShopFloor x = Check.made(CROSS);
        due("26: tasks", x.image(), 4);
        due("26: in a ring, too", ringed().image(), 4);
        due("26: no shop", new ShopFloor().image(), STATE);
        x.turn(0, 0);
        due("26: anew", x.image(), 4);
        x.undo();
        x.back();
        due("26: the latest image", x.span(), RING);
        x.turn(0, 0);
        due("26: the image is its own", x.back(), 4);
        due("26: the image is its own", x.span(), RING);
    }

    private static void p27Back() {
        ShopFloor x = Check.made(CROSS);
        due("27: none", x.back(), STATE);
        x.turn(1, 0);
        x.image();
        Check.shop(x, THREE);
        x.tabu(3);
        x.step(2);
        x.undo();
        Check.feed(x, "0 1");
        due("27: back", x.back(), 4);
        due("27: its orders", x.span(), 7);
        dueOrder(x, 1, 2, 1);
        due("27: jobs", x.count(0), 2);
        due("27: no changes", x.count(3), 0);
        due("27: none to be done again", x.count(4), 0);
        due("27: nothing kept", x.kept(-1), 0);
        due("27: no least", x.best(0), NOT);
        due("27: no best", x.best(1), NOT);
        due("27: steps go on", x.count(5), 2);
        due("27: the tape stays", x.count(2), 3);
        due("27: T stays", x.tabu(3), 3);
        due("27: all of these jobs", x.all(0), 3);
        due("27: bound of these jobs", x.bound(), 7);
        Check.shop(x, "");
        due("27: again", x.back(), 4);
    }

    private static void p28Count() {
        ShopFloor x = Check.made(THREE);
        x.step(3);
        x.undo();
        Check.feed(x, "xy");
        int[] want = {3, 8, 2, 2, 1, 3};
        for (int w = 0; w < 6; w++) due("28: count " + w, x.count(w), want[w]);
        due("28: what 6", x.count(6), BAD);
        due("28: what -1", x.count(-1), BAD);
        due("28: low", x.count(LOW), BAD);
        due("28: high", x.count(HIGH), BAD);
        x.shop();
        Check.shop(x, THREE);
        due("28: steps since the first shop", x.count(5), 3);
        x.step(1);
        due("28: steps go on", x.count(5), 4);
    }
}

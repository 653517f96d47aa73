/** "the shop" (promises 1 to 6, Terms 1): a test for each sentence with a boundary, on both sides of it. */
public final class ShopEdgesTest {
    private static final int BAD = -1, NOT = -2, FULL = -3, RING = -4, STATE = -5;
    private static final int LOW = Scene.LOW, HIGH = Scene.HIGH;
    private static final String SIX = "0 1,0 1,0 1,0 1,0 1,0 1";

    private ShopEdgesTest() {
    }

    public static void main(String[] args) {
        Check.runAll(ShopEdgesTest.class);
    }

    /** Jobs of so many tasks each, every task of three bytes: task n (from 0) begins at 4 n. */
    private static String jobs(int... sizes) {
        StringBuilder text = new StringBuilder();
        for (int size : sizes) {
            text.append(text.isEmpty() ? "" : ";").append("0 1,".repeat(size));
            text.setLength(text.length() - 1);
        }
        return text.toString();
    }

    private static void taken(String text, int tasks) {
        ShopFloor x = new ShopFloor();
        Check.due("\"" + text + "\"", Check.shop(x, text), tasks);
        Check.due("tasks of \"" + text + "\"", x.count(1), tasks);
        Check.due("tape behind \"" + text + "\"", x.count(2), 0);
    }

    private static void fault(String text, int at) {
        ShopFloor x = new ShopFloor();
        Check.due("\"" + text + "\"", Check.shop(x, text), -100 - at);
        Check.due("tape behind \"" + text + "\"", x.count(2), 0);
        Check.due("no shop by \"" + text + "\"", x.span(), STATE);
    }

    // ---- Promise 1: A new object

    /** "No SHOP." */
    static void p01NoShop() {
        Scene none = new Scene("a new object");
        none.due(-100, "shop");
        none.due(BAD, "task", 0, 0);
        none.due(STATE, "order", 0, -1);
        none.due(STATE, "order", 0, 0);
        none.due(BAD, "turn", 0, 0);
        none.due(STATE, "span");
        none.due(BAD, "of", 0, 0);
        none.due(STATE, "way", -1);
        none.due(STATE, "block", -1);
        none.due(STATE, "move", -1);
        none.due(STATE, "brings", 0, 0);
        none.due(STATE, "does", 0);
        none.due(4, "tabu", 4);
        none.due(STATE, "step", 1);
        none.due(0, "kept", -1);
        none.due(NOT, "kept", 0);
        none.due(STATE, "best", 0);
        none.due(STATE, "best", 1);
        none.due(STATE, "dispatch", 0);
        none.due(STATE, "would", 0);
        none.due(STATE, "machine", 0, 0);
        none.due(STATE, "machine", 0, 1);
        none.due(STATE, "bound");
        none.due(STATE, "all", 0);
        none.due(STATE, "all", 1);
        none.due(STATE, "chart", -1);
        none.due(STATE, "chart", 0);
        none.due(STATE, "undo");
        none.due(STATE, "redo");
        none.due(STATE, "image");
        none.due(STATE, "back");
        for (int what = 0; what < 6; what++) none.due(0, "count", what);
        none.due(1, "feed", 32);
    }

    /** "An object is used for at most 512 calls": the 512th is still answered as it ought to be. */
    static void p01FiveHundredAndTwelveCalls() {
        ShopFloor x = new ShopFloor();
        int calls = 0;
        for (char c : Scene.FRO.toCharArray()) {
            x.feed(c);
            calls++;
        }
        x.shop();
        calls++;
        while (calls < 511) {
            calls++;
            Check.due("call " + calls, calls % 2 == 0 ? x.step(30) : x.turn(0, 0), calls % 2 == 0 ? 30 : 13);
        }
        Check.due("call 512", x.span(), 13);
    }

    // ---- Promise 2: feed

    /** "A byte (32 .. 126) comes to THE TAPE: how many it has. BAD" */
    static void p02Bytes32To126() {
        Scene.BARE.due(4, "feed", 32);
        Scene.BARE.due(BAD, "feed", 31);
        Scene.BARE.due(4, "feed", 126);
        Scene.BARE.due(BAD, "feed", 127);
        for (int bad : new int[] {0, 10, -1, 128, 255, 256 + 48, 65536 + 48, LOW, HIGH}) {
            Scene.BARE.due(BAD, "feed", bad);
            Scene.WORN_AND_TAPE.due(BAD, "feed", bad);
        }
        ShopFloor x = new ShopFloor();
        for (int letter = 32; letter <= 126; letter++) Check.due("feed " + letter, x.feed(letter), letter - 31);
    }

    /** "THE TAPE (140 bytes at most)", "FULL" */
    static void p02At140BytesFull() {
        Scene almost = new Scene("139 bytes").tape("x".repeat(139));
        almost.due(140, "feed", 48);
        Scene full = new Scene("140 bytes").tape("0 1,4 2;" + "y".repeat(132));
        full.due(140, "count", 2);
        full.due(FULL, "feed", 32);
        full.due(FULL, "feed", 126);
        full.due(-108, "shop");
        ShopFloor x = full.made();
        x.feed(48);
        x.shop();
        Check.due("empty again", x.feed(48), 1);
    }

    /** "of several the one named first": BAD, then FULL */
    static void p02BadAheadOfFull() {
        Scene full = new Scene("140 bytes").tape("z".repeat(140));
        full.due(BAD, "feed", 31);
        full.due(BAD, "feed", 127);
    }

    // ---- Promise 3: shop

    /** "THE TAPE, which is empty then, is the SHOP: how many TASKS" */
    static void p03TapeIsEmptyThen() {
        ShopFloor x = new ShopFloor();
        Check.due("a shop", Check.shop(x, "0 1,1 2"), 2);
        Check.due("empty", x.count(2), 0);
        Check.due("an empty one is no shop", x.shop(), -100);
        Check.due("the shop stays", x.count(1), 2);
    }

    /** "-100 less the FAULT (the SHOP stays)", "changes nothing, THE TAPE is empty all the same" */
    static void p03FaultChangesNothing() {
        for (String text : new String[] {"", "5", "0 1,", "0 100", jobs(6, 6, 6, 6, 1), "1 2;1 3;x"}) {
            Scene.WORN.tape(text).then(ShopFloor::shop).alike("shop() of \"" + text + "\"", Scene.WORN);
            Scene.RINGED.then(ShopFloor::shop).tape(text).then(ShopFloor::shop)
                    .alike("shop() of \"" + text + "\"", Scene.RINGED.then(ShopFloor::shop));
        }
        Scene none = new Scene("a new object");
        none.tape("0 0").then(ShopFloor::shop).alike("a fault without a shop", none);
    }

    /** "JOBS 0 .. m - 1 (m 1 .. 6)" */
    static void p03OneToSixJobs() {
        taken("0 1", 1);
        taken(jobs(1, 1, 1, 1, 1), 5);
        taken(jobs(1, 1, 1, 1, 1, 1), 6);
        fault(jobs(1, 1, 1, 1, 1, 1, 1), 24);
        Check.due("jobs", Check.made("0 1").count(0), 1);
        Check.due("jobs", Check.made(jobs(2, 1, 1, 1, 1, 3)).count(0), 6);
    }

    /** "where a seventh JOB .. would begin (behind its ;, whatever stands there)" */
    static void p03SeventhJobWhateverStandsThere() {
        String six = jobs(1, 1, 1, 1, 1, 1) + ";";
        for (String rest : new String[] {"", "0 1", "4 99;0 1", "5 1", "x", " ", ";", ",", "0"}) fault(six + rest, 24);
        fault(jobs(1, 1, 1, 1, 1, 1) + "x", 23);
        fault(jobs(3, 1, 2, 1, 1, 2) + ";0 1", 40);
    }

    /** "rows of TASKS (1 .. 6 each" */
    static void p03OneToSixTasksOfEach() {
        taken(jobs(1), 1);
        taken(jobs(5), 5);
        taken(jobs(6), 6);
        fault(jobs(7), 24);
        taken(jobs(1, 6), 7);
        fault(jobs(1, 7), 28);
        taken(jobs(6, 6, 6), 18);
        fault(jobs(6, 6, 7), 72);
        fault(";0 1", 0);
        fault("0 1;;0 1", 4);
        fault("0 1;", 4);
    }

    /** "a seventh TASK of a JOB .. would begin (behind its ,, whatever stands there)" */
    static void p03SeventhTaskWhateverStandsThere() {
        for (String rest : new String[] {"", "0 1", "4 99;0 1", "5 1", "x", " ", ";", ",", "0"}) fault(SIX + "," + rest, 24);
        fault(SIX + "x", 23);
        taken(SIX + ";" + SIX, 12);
    }

    /** "24 in all at most" */
    static void p03TwentyFourTasks() {
        taken(jobs(6, 6, 6, 5), 23);
        taken(jobs(6, 6, 6, 6), 24);
        fault(jobs(6, 6, 6, 6, 1), 96);
        taken(jobs(5, 5, 5, 5, 4), 24);
        fault(jobs(5, 5, 5, 5, 5), 96);
        taken(jobs(4, 4, 4, 4, 4, 4), 24);
        fault(jobs(4, 4, 4, 4, 4, 5), 96);
        fault(jobs(4, 4, 4, 4, 4, 4, 1), 96);
    }

    /** "a 25th TASK would begin (behind its ; or , whatever stands there)" */
    static void p03TwentyFifthTaskWhateverStandsThere() {
        String full = jobs(5, 5, 5, 5, 4);
        for (String rest : new String[] {"", "0 1", "5 1", "x", " ", ";", ",", "0"}) {
            fault(full + "," + rest, 96);
            fault(full + ";" + rest, 96);
        }
        fault(full + "x", 95);
        fault(full + " ", 95);
        String longest = "4 99,4 99,4 99,4 99,4 99,4 99";
        longest = longest + ";" + longest + ";" + longest + ";" + longest;
        taken(longest, 24);
        fault(longest + ";" + "0".repeat(20), 120);
        fault(longest + "0".repeat(21), 119);
    }

    /** "numbered from 0 on, JOB by JOB" */
    static void p03NumberedJobByJob() {
        ShopFloor x = Check.made("0 1;1 2,2 3,3 4;4 5,0 99");
        int[][] want = {{0, 0, 0, 1}, {1, 0, 1, 2}, {1, 1, 2, 3}, {1, 2, 3, 4}, {2, 0, 4, 5}, {2, 1, 0, 99}};
        for (int t = 0; t < 6; t++) {
            for (int what = 0; what < 4; what++) Check.due("task(" + t + ", " + what + ")", x.task(t, what), want[t][what]);
        }
    }

    /** "a figure 0 .. 4 (its MACHINE)" */
    static void p03Machine0To4() {
        for (int m = 0; m < 5; m++) {
            taken(m + " 1", 1);
            Check.due("machine", Check.made(m + " 1").task(0, 2), m);
        }
        fault("5 1", 0);
        fault("/ 1", 0);
        fault("9 1", 0);
        fault("- 1", 0);
        fault("0 1,5 1", 4);
        fault("0 1;/ 1", 4);
        fault("00 1", 1);
    }

    /** "a blank" */
    static void p03Blank() {
        taken("0 1", 1);
        fault("0!1", 1);
        fault("01", 1);
        fault("0  1", 2);
        fault(" 0 1", 0);
        fault("0 1 ", 3);
        fault("0 1, 0 1", 4);
    }

    /** "one or two figures (LASTS; not 0 ahead)", "LASTS (1 .. 99)" */
    static void p03Lasts1To99() {
        for (int lasts = 1; lasts <= 99; lasts++) Check.due("lasts", Check.made("3 " + lasts).task(0, 3), lasts);
        fault("0 0", 2);
        fault("0 00", 2);
        fault("0 01", 2);
        fault("0 09", 2);
        fault("0 /", 2);
        fault("0 :", 2);
        fault("0 1/", 3);
        fault("0 1:", 3);
        fault("0 -1", 2);
    }

    /** "LASTS is of as many figures as stand there, two at most ..; a third one is the FAULT" */
    static void p03ThirdFigureOfLasts() {
        taken("0 10", 1);
        fault("0 100", 4);
        fault("0 999", 4);
        fault("0 110", 4);
        taken("0 1,0 10", 2);
        fault("0 1,0 100", 8);
        fault("0 99x", 4);
    }

    /** "JOB { ; JOB }, JOB: TASK { , TASK }": nothing but ; and , behind a TASK */
    static void p03Signs() {
        taken("0 1,0 1", 2);
        taken("0 1;0 1", 2);
        for (String sign : new String[] {"+", "-", ":", "<", ".", "x", "~", " "}) {
            fault("0 1" + sign + "0 1", 3);
            fault("0 12" + sign + "0 1", 4);
        }
    }

    /** "otherwise the first byte with which no SHOP goes on" */
    static void p03FirstByteThatDoesNotGoOn() {
        fault("x", 0);
        fault(",", 0);
        fault(";", 0);
        fault("0,1", 1);
        fault("0 ,", 2);
        fault("0 1,,", 4);
        fault("0 1,;", 4);
        fault("0 1;,", 4);
        fault("0 1;;", 4);
        fault("0 1,0 1,0 1;0 1;3 4;3 x", 22);
        fault("0 1x5 1", 3);
    }

    /** "the length, if it ends too early" */
    static void p03EndsTooEarly() {
        fault("", 0);
        fault("0", 1);
        fault("0 ", 2);
        taken("0 1", 1);
        fault("0 1,", 4);
        fault("0 1,4", 5);
        fault("0 1,4 ", 6);
        taken("0 1,4 9", 2);
        fault("0 1;", 4);
        fault("0 1;4", 5);
        fault("0 1;4 ", 6);
    }

    /** "A new SHOP takes off what TABU keeps, LEAST, BEST (T stays)", "a new SHOP has none" (CHANGES) */
    static void p03NewShopTakesOff() {
        ShopFloor x = Scene.WORN.made();
        Check.due("kept ahead", x.kept(-1), 3);
        Check.due("a new one", Check.shop(x, Scene.THREE), 8);
        Check.kept(x);
        Check.due("no least", x.best(0), NOT);
        Check.due("no best", x.best(1), NOT);
        Check.due("no changes", x.count(3), 0);
        Check.due("none to be done again", x.count(4), 0);
        Check.due("undo", x.undo(), STATE);
        Check.due("redo", x.redo(), STATE);
        Check.order(x, 1, 1, 5, 6);
        Check.due("steps go on", x.count(5), 5);
        Check.due("T stays", x.tabu(3), 3);
        Check.due("the image stays", x.back(), 8);
    }

    /** a new SHOP answers as on a new object: nothing of the one ahead of it is left */
    static void p03NothingOfTheShopAheadIsLeft() {
        String[] texts = {"0 1", "4 9,4 9", Scene.THREE, Scene.CROSS, Scene.HOMES, Scene.SEVEN_ON_ONE,
            "0 5,1 6,2 7;3 1;4 2", "1 2,0 3;0 4,1 5;2 6,3 7,0 8", jobs(6, 6, 6, 6)};
        for (String ahead : texts) {
            for (String text : texts) {
                Scene behind = new Scene("a shop").shop(ahead).then(ShopEdgesTest::askWhatMayBeKept).shop(text);
                behind.alike("\"" + text + "\" behind \"" + ahead + "\"", new Scene("a shop").shop(text));
            }
        }
    }

    private static void askWhatMayBeKept(ShopFloor x) {
        for (int m = 0; m < 5; m++) x.machine(m, 0);
        x.bound();
        x.all(0);
        x.would(2);
        x.dispatch(3);
        x.undo();
    }

    // ---- Promise 4: task

    /** "Of a TASK": t from 0 on, as many as there are */
    static void p04Tasks() {
        Scene.FRESH.due(0, "task", 0, 0);
        Scene.FRESH.due(BAD, "task", -1, 0);
        Scene.FRESH.due(2, "task", 7, 0);
        Scene.FRESH.due(BAD, "task", 8, 0);
        for (int what = 0; what < 5; what++) {
            Scene.FRESH.due(BAD, "task", LOW, what);
            Scene.FRESH.due(BAD, "task", HIGH, what);
            Scene.FRESH.due(BAD, "task", 8, what);
        }
        ShopFloor most = Check.made(jobs(6, 6, 6, 6));
        Check.due("the last of 24", most.task(23, 1), 5);
        Check.due("behind it", most.task(24, 1), BAD);
    }

    /** "JOB (what 0), place in it (1), MACHINE (2), LASTS (3), place in the ORDER (4)" */
    static void p04What0To4() {
        int[] want = {2, 1, 2, 3, 2};
        for (int what = 0; what < 5; what++) Scene.FRESH.due(want[what], "task", 7, what);
        Scene.FRESH.due(BAD, "task", 7, -1);
        Scene.FRESH.due(BAD, "task", 7, 5);
        Scene.FRESH.due(BAD, "task", 7, LOW);
        Scene.FRESH.due(BAD, "task", 7, HIGH);
    }

    /** "BAD: no such number (without a SHOP there is no TASK ..)" is told ahead of STATE */
    static void p04NoShopNoTask() {
        Scene.BARE.due(BAD, "task", 0, 0);
        Scene.BARE.due(BAD, "task", 0, 5);
        Scene.BARE.due(BAD, "task", -1, 0);
    }

    /** place in the ORDER as it is then, in a RING, too */
    static void p04PlaceInTheOrderAsItIs() {
        Scene.RINGED.due(1, "task", 0, 4);
        Scene.RINGED.due(0, "task", 3, 4);
        Scene.RINGED.due(0, "task", 1, 4);
        Scene.RINGED.due(1, "task", 2, 4);
    }

    // ---- Promise 5: order

    /** "a MACHINE's ORDER": 0 .. 4 */
    static void p05Machine0To4() {
        Scene.FRESH.due(2, "order", 0, -1);
        Scene.FRESH.due(BAD, "order", -1, -1);
        Scene.FRESH.due(0, "order", 4, -1);
        Scene.FRESH.due(BAD, "order", 5, -1);
        Scene.FRESH.due(BAD, "order", 5, 0);
        Scene.FRESH.due(BAD, "order", LOW, 0);
        Scene.FRESH.due(BAD, "order", HIGH, 0);
        Check.order(Check.made("4 1;4 2"), 4, 0, 1);
    }

    /** "k -1: how many", "k below -1" is BAD */
    static void p05KMinus1() {
        Scene.FRESH.due(3, "order", 1, -1);
        Scene.FRESH.due(BAD, "order", 1, -2);
        Scene.FRESH.due(BAD, "order", 1, LOW);
        Scene.FRESH.due(0, "order", 3, -1);
        Scene.FRESH.due(BAD, "order", 3, -2);
    }

    /** "The k-th (from 0)", "NOT: there are not as many" */
    static void p05NotAsMany() {
        Scene.FRESH.due(1, "order", 1, 0);
        Scene.FRESH.due(6, "order", 1, 2);
        Scene.FRESH.due(NOT, "order", 1, 3);
        Scene.FRESH.due(3, "order", 0, 1);
        Scene.FRESH.due(NOT, "order", 0, 2);
        Scene.FRESH.due(NOT, "order", 3, 0);
        Scene.FRESH.due(NOT, "order", 1, HIGH);
        ShopFloor most = Check.made(jobs(6, 6, 6, 6));
        Check.due("the last of 24", most.order(0, 23), 23);
        Check.due("behind it", most.order(0, 24), NOT);
    }

    /** "at first by numbers" */
    static void p05AtFirstByNumbers() {
        ShopFloor x = Check.made("2 1,0 1;0 1,2 1;4 1,0 1,2 1");
        Check.order(x, 0, 1, 2, 5);
        Check.order(x, 1);
        Check.order(x, 2, 0, 3, 6);
        Check.order(x, 3);
        Check.order(x, 4, 4);
    }

    /** "BAD ..; STATE": without a SHOP */
    static void p05NoShop() {
        Scene.BARE.due(STATE, "order", 0, -1);
        Scene.BARE.due(STATE, "order", 4, HIGH);
        Scene.BARE.due(BAD, "order", 5, -1);
        Scene.BARE.due(BAD, "order", 0, -2);
    }

    // ---- Promise 6: turn

    /** "a MACHINE": 0 .. 4 */
    static void p06Machine0To4() {
        ShopFloor x = Check.made("0 1,4 1;4 2,0 2");
        Check.due("machine 4", x.turn(4, 0), 4);
        Check.order(x, 4, 2, 1);
        Check.due("machine 0", x.turn(0, 0), 6);
        Check.order(x, 0, 3, 0);
        Scene.FRESH.due(BAD, "turn", -1, 0);
        Scene.FRESH.due(BAD, "turn", 5, 0);
        Scene.FRESH.due(BAD, "turn", LOW, 0);
        Scene.FRESH.due(BAD, "turn", HIGH, 0);
    }

    /** "BAD: machine, k (there is no next one" */
    static void p06ThereIsANextOne() {
        ShopFloor x = Check.made(Scene.THREE);
        Check.due("the last two", x.turn(1, 1), 13);
        Check.order(x, 1, 1, 6, 5);
        Scene.WORN_AND_TAPE.due(BAD, "turn", 1, 2);
        Scene.WORN_AND_TAPE.due(BAD, "turn", 1, 3);
        Scene.WORN_AND_TAPE.due(BAD, "turn", 0, 1);
        Scene.WORN_AND_TAPE.due(BAD, "turn", 3, 0);
        Scene.WORN_AND_TAPE.due(BAD, "turn", 1, -1);
        Scene.WORN_AND_TAPE.due(BAD, "turn", 1, LOW);
        Scene.WORN_AND_TAPE.due(BAD, "turn", 1, HIGH);
        Scene one = new Scene("one task").shop("2 5");
        one.due(BAD, "turn", 2, 0);
        ShopFloor most = Check.made(jobs(6, 6, 6, 6));
        Check.due("no next of 24", most.turn(0, 23), BAD);
        Check.due("the last two of 24 are of one job", most.turn(0, 22), RING);
        Check.due("place of the last", most.task(23, 4), 22);
    }

    /** "the k-th and the next one of a MACHINE change places; SPAN then": no others do */
    static void p06JustThese() {
        ShopFloor x = Check.made("0 1;0 2;0 3;0 4;1 1;1 2");
        Check.due("the middle", x.turn(0, 1), 10);
        Check.order(x, 0, 0, 2, 1, 3);
        Check.order(x, 1, 4, 5);
        Check.due("the first", x.turn(0, 0), 10);
        Check.order(x, 0, 2, 0, 1, 3);
        Check.due("the last", x.turn(0, 2), 10);
        Check.order(x, 0, 2, 0, 3, 1);
    }

    /** "RING: it is done all the same" */
    static void p06RingIsDoneAllTheSame() {
        ShopFloor x = Check.made(Scene.CROSS);
        Check.due("no ring", x.turn(1, 0), 7);
        Check.due("no ring", x.turn(1, 0), 10);
        Check.due("ring", x.turn(0, 0), RING);
        Check.order(x, 0, 3, 0);
        Check.due("a change", x.count(3), 3);
        Check.due("no longer", x.turn(1, 0), 10);
        Check.due("two of one job", Check.made("0 1,0 1").turn(0, 0), RING);
    }

    /** "no SHOP: there never is" (a next one) */
    static void p06NoShop() {
        Scene.BARE.due(BAD, "turn", 0, 0);
        Scene.BARE.due(BAD, "turn", 4, 0);
        Scene.BARE.due(BAD, "turn", 5, 0);
        Scene.BARE.due(BAD, "turn", 0, -1);
    }
}

/** "starts" (promises 7 to 10, Terms 1 and 2): a test for each sentence with a boundary, on both sides of it. */
public final class StartsEdgesTest {
    private static final int BAD = -1, NOT = -2, RING = -4, STATE = -5;
    private static final int LOW = Scene.LOW, HIGH = Scene.HIGH;
    private static final String SIX = "0 99,0 99,0 99,0 99,0 99,0 99";
    /** The most and the longest tasks that there may be, all one behind the other. */
    private static final Scene MOST = new Scene("24 in a row").shop(SIX + ";" + SIX + ";" + SIX + ";" + SIX);

    private StartsEdgesTest() {
    }

    public static void main(String[] args) {
        Check.runAll(StartsEdgesTest.class);
    }

    private static void dueOf(ShopFloor x, int t, int start, int tail, int slack, int critical) {
        int[] want = {start, tail, slack, critical};
        for (int what = 0; what < 4; what++) Check.due("of(" + t + ", " + what + ")", x.of(t, what), want[what]);
    }

    // ---- Promise 7: span

    /** "SPAN: the last end" */
    static void p07TheLastEnd() {
        Check.due("of the first job", Check.made("0 7;1 6;2 5").span(), 7);
        Check.due("of a middle one", Check.made("0 5;1 7;2 6").span(), 7);
        Check.due("of the last one", Check.made("0 5;1 6;2 7").span(), 7);
        Check.due("the least", Check.made("0 1").span(), 1);
        MOST.due(24 * 99, "span");
    }

    /** "STATE; RING" */
    static void p07StateRing() {
        Scene.BARE.due(STATE, "span");
        Scene.FRESH.due(19, "span");
        Scene.RINGED.due(RING, "span");
        Scene.RINGED.then(x -> x.turn(1, 0)).due(10, "span");
    }

    // ---- Promise 8: of

    /** "START: the least from 0 on, not ahead of the ends (START and LASTS) of those it waits for" */
    static void p08StartByJobAndByOrder() {
        Check.due("none waited for", Check.made("0 2").of(0, 0), 0);
        Check.due("the JOB's ends later", Check.made("0 2;1 9,0 1").of(2, 0), 9);
        Check.due("the ORDER's ends later", Check.made("0 9;1 2,0 1").of(2, 0), 9);
        Check.due("both end at once", Check.made("0 9;1 9,0 1").of(2, 0), 9);
        Check.due("by the JOB alone", Check.made("0 2,1 1").of(1, 0), 2);
        Check.due("by the ORDER alone", Check.made("0 2;0 1").of(1, 0), 2);
        Check.due("one task is both", Check.made("0 2,0 1").of(1, 0), 2);
        Check.due("another machine and job", Check.made("0 9;1 1").of(1, 0), 0);
    }

    /** "TAIL: the longest that is to come behind its end, by those that wait for it, and so on (0: none waits)" */
    static void p08Tail() {
        Check.due("none waits", Check.made("0 2").of(0, 1), 0);
        Check.due("by the JOB", Check.made("0 2,1 9;0 3").of(0, 1), 9);
        Check.due("by the ORDER", Check.made("0 2,1 3;0 9").of(0, 1), 9);
        Check.due("and so on", Check.made("0 2;0 3,1 4;1 5").of(0, 1), 12);
        Check.due("the last one", Check.made("0 2;0 3,1 4;1 5").of(3, 1), 0);
    }

    /** "It is CRITICAL, if START, LASTS and TAIL together are SPAN; SLACK: SPAN less these" */
    static void p08CriticalWithoutSlack() {
        ShopFloor like = Check.made("0 5;1 5");
        dueOf(like, 0, 0, 0, 0, 1);
        dueOf(like, 1, 0, 0, 0, 1);
        ShopFloor less = Check.made("0 5;1 4");
        dueOf(less, 0, 0, 0, 0, 1);
        dueOf(less, 1, 0, 0, 1, 0);
        ShopFloor x = Check.made("0 3,1 2;1 4,0 1");
        dueOf(x, 0, 0, 7, 0, 1);
        dueOf(x, 1, 3, 5, 0, 1);
        dueOf(x, 2, 5, 1, 0, 1);
        dueOf(x, 3, 9, 0, 0, 1);
        dueOf(MOST.made(), 0, 0, 23 * 99, 0, 1);
        dueOf(MOST.made(), 23, 23 * 99, 0, 0, 1);
    }

    /** "Of a TASK": t from 0 on, as many as there are */
    static void p08Tasks() {
        for (int what = 0; what < 4; what++) {
            Scene.FRESH.due(BAD, "of", -1, what);
            Scene.FRESH.due(BAD, "of", 8, what);
            Scene.FRESH.due(BAD, "of", LOW, what);
            Scene.FRESH.due(BAD, "of", HIGH, what);
            Scene.FRESH.due(new int[] {0, 16, 0, 1}[what], "of", 0, what);
            Scene.FRESH.due(new int[] {16, 0, 0, 1}[what], "of", 7, what);
        }
        MOST.due(BAD, "of", 24, 0);
    }

    /** "START (what 0), TAIL (1), SLACK (2), CRITICAL (3; 1, 0)" */
    static void p08What0To3() {
        int[] want = {3, 12, 2, 0};
        for (int what = 0; what < 4; what++) Scene.FRESH.due(want[what], "of", 3, what);
        Scene.FRESH.due(BAD, "of", 3, -1);
        Scene.FRESH.due(BAD, "of", 3, 4);
        Scene.FRESH.due(BAD, "of", 3, LOW);
        Scene.FRESH.due(BAD, "of", 3, HIGH);
    }

    /** "BAD; STATE; RING": without a SHOP there is no TASK, so BAD */
    static void p08NoShopRing() {
        Scene.BARE.due(BAD, "of", 0, 0);
        Scene.RINGED.due(RING, "of", 0, 0);
        Scene.RINGED.due(RING, "of", 3, 3);
        Scene.RINGED.due(BAD, "of", 4, 0);
        Scene.RINGED.due(BAD, "of", 0, 4);
    }

    // ---- Promise 9: way

    /** "from a CRITICAL TASK that starts at 0 (the least number) on" */
    static void p09Beginning() {
        Check.way(Check.made("0 5;1 5"), 0);
        Check.way(Check.made("0 4;1 5;2 5"), 1);
        ShopFloor x = Check.made("0 2;0 3");
        x.turn(0, 0);
        Check.way(x, 1, 0);
    }

    /** "always to the least number of those that wait for it (by JOB, ORDER)" */
    static void p09LeastNumberOfThoseThatWait() {
        Check.way(Check.made("0 2,1 3;0 3"), 0, 1);
        ShopFloor byOrder = Check.made("0 3;1 3;0 2,2 3");
        byOrder.turn(0, 0);
        Check.way(byOrder, 2, 0);
    }

    /** "are CRITICAL" */
    static void p09CriticalOnes() {
        Check.way(Check.made("0 2,1 1;0 3"), 0, 2);
        Check.way(Check.made("0 2,1 3;0 1"), 0, 1);
        ShopFloor x = Check.made("0 1;0 2,1 5");
        x.turn(0, 0);
        Check.way(x, 1, 2);
    }

    /** "and start at its end" */
    static void p09ThatStartAtItsEnd() {
        // Task 1 waits for 0, is critical, but starts at 5 behind 3; 0 ends at 2.
        ShopFloor byJob = Check.made("0 2,1 3;0 6;1 5");
        Check.due("span", byJob.turn(1, 0), 8);
        Check.due("critical", byJob.of(1, 3), 1);
        Check.way(byJob, 0, 2);
        // Task 1 waits for 3 in the order, is critical, but starts at 6 behind 0; 3 ends at 4.
        ShopFloor byOrder = Check.made("2 3,1 3;0 2,1 2,3 5;2 3");
        byOrder.turn(1, 0);
        Check.due("span", byOrder.turn(2, 0), 9);
        Check.due("critical", byOrder.of(1, 3), 1);
        Check.way(byOrder, 2, 3, 4);
    }

    /** "to one that ends at SPAN" */
    static void p09ToTheEnd() {
        Check.way(Check.made("0 1"), 0);
        ShopFloor x = MOST.made();
        Check.due("all 24", x.way(-1), 24);
        Check.due("the last one", x.way(23), 23);
        Check.due("none behind it", x.way(24), NOT);
    }

    /** "The k-th of the LONGEST WAY; k -1: how many. BAD: k; .. NOT." */
    static void p09K() {
        Scene.FRESH.due(7, "way", -1);
        Scene.FRESH.due(BAD, "way", -2);
        Scene.FRESH.due(BAD, "way", LOW);
        Scene.FRESH.due(0, "way", 0);
        Scene.FRESH.due(7, "way", 6);
        Scene.FRESH.due(NOT, "way", 7);
        Scene.FRESH.due(NOT, "way", HIGH);
    }

    /** "BAD: k; STATE; RING; NOT" */
    static void p09StateRing() {
        Scene.BARE.due(BAD, "way", -2);
        Scene.BARE.due(STATE, "way", -1);
        Scene.BARE.due(STATE, "way", HIGH);
        Scene.RINGED.due(BAD, "way", -2);
        Scene.RINGED.due(RING, "way", -1);
        Scene.RINGED.due(RING, "way", HIGH);
    }

    // ---- Promise 10: block

    /** "BLOCKS of it: as many as can be of its TASKS side by side that are of one MACHINE" */
    static void p10AsManyAsCanBe() {
        Check.blocks(Check.made("0 1"), 1);
        Check.blocks(Check.made("0 1,1 1"), 1, 1);
        Check.blocks(Check.made("0 1;0 2;0 3"), 3);
        Check.blocks(Check.made("0 1,0 2,1 3"), 2, 1);
        Check.blocks(Check.made("0 1,1 2,0 3"), 1, 1, 1);
        Check.blocks(Check.made("0 1,1 1,0 1,1 1,0 1,1 1"), 1, 1, 1, 1, 1, 1);
        Check.blocks(MOST.made(), 24);
    }

    /** "How many BLOCKS (b -1), TASKS of the b-th. BAD; .. NOT." */
    static void p10B() {
        Scene.FRESH.due(5, "block", -1);
        Scene.FRESH.due(BAD, "block", -2);
        Scene.FRESH.due(BAD, "block", LOW);
        Scene.FRESH.due(1, "block", 0);
        Scene.FRESH.due(1, "block", 4);
        Scene.FRESH.due(NOT, "block", 5);
        Scene.FRESH.due(NOT, "block", HIGH);
        MOST.due(1, "block", -1);
        MOST.due(24, "block", 0);
        MOST.due(NOT, "block", 1);
    }

    /** "BAD; STATE; RING; NOT" */
    static void p10StateRing() {
        Scene.BARE.due(BAD, "block", -2);
        Scene.BARE.due(STATE, "block", -1);
        Scene.BARE.due(STATE, "block", HIGH);
        Scene.RINGED.due(BAD, "block", -2);
        Scene.RINGED.due(RING, "block", -1);
        Scene.RINGED.due(RING, "block", HIGH);
    }
}

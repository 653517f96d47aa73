/** "other orders" (promises 18 to 23, Terms 3 and 4): a test for each sentence with a boundary, on both sides. */
public final class OrdersEdgesTest {
    private static final int BAD = -1, NOT = -2, RING = -4, STATE = -5, LONG = -7;
    private static final int LOW = Scene.LOW, HIGH = Scene.HIGH;
    /** Four that would START at 0 on MACHINE 0: LASTS 3, 2, 4, 3; left in the JOB 4, 11, 4, 3. */
    private static final String RULES = "0 3,1 1;0 2,1 9;0 4;0 3";
    private static final int[] RULED = {12, 21, 12, 21};
    private static final String SIX_OF_ONE = "0 1,0 1,0 1,0 1,0 1,0 1";

    private OrdersEdgesTest() {
    }

    public static void main(String[] args) {
        Check.runAll(OrdersEdgesTest.class);
    }

    private static Scene shop(String text) {
        return new Scene("\"" + text + "\"").shop(text);
    }

    // ---- Promise 18: dispatch

    /** "DISPATCHED by a RULE (0 .. 3)", "BAD" */
    static void p18Rule0To3() {
        Integer[][] orders = {{2, 0, 5, 4}, {4, 0, 5, 2}, {2, 0, 4, 5}, {5, 0, 4, 2}};
        for (int rule = 0; rule < 4; rule++) {
            ShopFloor x = Check.made(RULES);
            Check.due("dispatch(" + rule + ")", x.dispatch(rule), RULED[rule]);
            Check.order(x, 0, orders[rule]);
            Check.due("span", x.span(), RULED[rule]);
            Check.due("a change", x.count(3), 1);
        }
        for (int bad : new int[] {-1, 4, LOW, HIGH}) {
            Scene.FRESH.due(BAD, "dispatch", bad);
            Scene.WORN_AND_TAPE.due(BAD, "dispatch", bad);
            Scene.RINGED.due(BAD, "dispatch", bad);
        }
    }

    /** "those that would START first": one tick sooner goes ahead of the rule, at once the rule tells */
    static void p18ThoseThatWouldStartFirst() {
        ShopFloor sooner = Check.made("1 2,0 1;2 1,0 9");
        sooner.dispatch(0);
        Check.order(sooner, 0, 3, 1);
        ShopFloor atOnce = Check.made("1 2,0 1;2 2,0 9");
        atOnce.dispatch(0);
        Check.order(atOnce, 0, 1, 3);
        atOnce.dispatch(1);
        Check.order(atOnce, 0, 3, 1);
        ShopFloor later = Check.made("1 2,0 1;2 3,0 9");
        later.dispatch(1);
        Check.order(later, 0, 1, 3);
    }

    /** "as soon as these and the one ahead of it in its JOB have ended" */
    static void p18AsSoonAsTheseHaveEnded() {
        // Task 1 could start at 1 by its job, but its machine works till 4; 3 starts at 3 on another one.
        ShopFloor x = Check.made("1 1,0 2;0 4;1 2,2 3");
        Check.due("span", x.dispatch(0), 6);
        Check.order(x, 0, 2, 1);
        Check.order(x, 1, 0, 3);
        Check.due("start by the machine", x.of(1, 0), 4);
        Check.due("start by the job", x.of(4, 0), 3);
    }

    /** "of like ones the least number" */
    static void p18OfLikeOnesTheLeastNumber() {
        for (int rule = 0; rule < 4; rule++) {
            ShopFloor x = Check.made("0 2;0 2;0 2");
            x.turn(0, 0);
            Check.due("span", x.dispatch(rule), 6);
            Check.order(x, 0, 0, 1, 2);
        }
    }

    /** "CHANGES .. (also if nothing is other then)", "BAD; STATE": no RING */
    static void p18ChangeOutOfARing() {
        ShopFloor x = Scene.RINGED.made();
        Check.due("out of a ring", x.dispatch(0), 7);
        Check.due("a change", x.count(3), 4);
        Check.due("none to be done again", x.count(4), 0);
        Check.due("nothing is other", x.dispatch(0), 7);
        Check.due("a change", x.count(3), 5);
        Check.due("undone", x.undo(), 4);
        Check.due("still so", x.span(), 7);
        x.undo();
        Check.due("ring again", x.span(), RING);
        for (int rule = 0; rule < 4; rule++) Scene.BARE.due(STATE, "dispatch", rule);
        Scene.BARE.due(BAD, "dispatch", 4);
        Scene.BARE.due(BAD, "dispatch", -1);
    }

    // ---- Promise 19: would

    /** "SPAN, if it were DISPATCHED by a RULE, in thought. BAD; STATE." */
    static void p19InThought() {
        for (int rule = 0; rule < 4; rule++) {
            shop(RULES).due(RULED[rule], "would", rule);
            Scene.BARE.due(STATE, "would", rule);
            Scene.WORN_AND_TAPE.due(Scene.WORN.made().dispatch(rule), "would", rule);
        }
        for (int bad : new int[] {-1, 4, LOW, HIGH}) {
            Scene.BARE.due(BAD, "would", bad);
            Scene.FRESH.due(BAD, "would", bad);
            Scene.WORN_AND_TAPE.due(BAD, "would", bad);
            Scene.RINGED.due(BAD, "would", bad);
        }
    }

    /** "ONE MACHINE, BOUND, PREEMPTED, ALL ORDERS, would() .. answer with a RING, too" */
    static void p19AnswersWithARing() {
        Scene cross = new Scene("no ring").shop(Scene.CROSS);
        for (Scene scene : new Scene[] {cross, cross.then(x -> x.turn(1, 0)), Scene.RINGED}) {
            for (int rule = 0; rule < 4; rule++) scene.due(7, "would", rule);
            for (int how = 0; how < 2; how++) {
                scene.due(7, "machine", 0, how);
                scene.due(7, "machine", 1, how);
            }
            scene.due(7, "bound");
            scene.due(3, "all", 0);
            scene.due(7, "all", 1);
        }
    }

    // ---- Promise 20: machine

    /** "BAD": MACHINE 0 .. 4, how 0 and 1 */
    static void p20MachineAndHow() {
        for (int how = 0; how < 2; how++) {
            Scene.FRESH.due(9, "machine", 0, how);
            Scene.FRESH.due(10, "machine", 1, how);
            Scene.FRESH.due(9, "machine", 2, how);
            Scene.FRESH.due(BAD, "machine", -1, how);
            Scene.FRESH.due(BAD, "machine", 5, how);
            Scene.FRESH.due(BAD, "machine", LOW, how);
            Scene.FRESH.due(BAD, "machine", HIGH, how);
            shop("4 3").due(3, "machine", 4, how);
        }
        for (int how : new int[] {-1, 2, LOW, HIGH}) {
            Scene.FRESH.due(BAD, "machine", 0, how);
            Scene.FRESH.due(BAD, "machine", 3, how);
            Scene.SEVEN.due(BAD, "machine", 0, how);
        }
    }

    /** "NOT: it has no TASK" */
    static void p20NoTask() {
        for (int how = 0; how < 2; how++) {
            Scene.FRESH.due(NOT, "machine", 3, how);
            Scene.FRESH.due(NOT, "machine", 4, how);
            Scene.SEVEN.due(NOT, "machine", 1, how);
            shop("3 1").due(1, "machine", 3, how);
        }
    }

    /** "(6 TASKS at most, else LONG)", "LONG (how 0)" */
    static void p20SixTasksAtMost() {
        shop(SIX_OF_ONE).due(6, "machine", 0, 0);
        shop("0 2;0 3;0 4;0 5;0 6;0 7").due(27, "machine", 0, 0);
        Scene.SEVEN.due(LONG, "machine", 0, 0);
        Scene.SEVEN.due(7, "machine", 0, 1);
        String all = SIX_OF_ONE + ";" + SIX_OF_ONE + ";" + SIX_OF_ONE + ";" + SIX_OF_ONE;
        shop(all).due(LONG, "machine", 0, 0);
        // The heads 0 .. 5 of six tasks on machine 1, and one more of the last job on machine 0.
        shop("1 1,0 1;1 1;1 1;1 1;1 1;1 1").due(6, "machine", 1, 0);
        shop("1 1,0 1;1 1;1 1;1 1;1 1;1 1,1 1").due(LONG, "machine", 1, 0);
        shop("1 1,0 1;1 1;1 1;1 1;1 1;1 1,1 1").due(2, "machine", 0, 0);
    }

    /** "each with a HEAD (all LASTS ahead of it in its JOB), LASTS, and a TAIL (all behind it)" */
    static void p20HeadAndTail() {
        shop("1 7,0 2").due(9, "machine", 0, 0);
        shop("1 7,2 3,0 2").due(12, "machine", 0, 0);
        shop("0 2,1 7").due(9, "machine", 0, 0);
        shop("0 2,1 7,2 3").due(12, "machine", 0, 0);
        shop("0 1,1 9;0 2").due(10, "machine", 0, 0);
        shop("0 2;0 1,1 9").due(10, "machine", 0, 0);
        shop("1 5,0 1;0 2,2 6").due(8, "machine", 0, 0);
    }

    /** "the one there (its HEAD reached, something left) with the greatest TAIL .. is worked on" at each tick */
    static void p20PreemptedWhenItsHeadIsReached() {
        // The HEAD is reached a tick ahead of the other one's end, at it, and a tick behind it.
        shop("0 2,3 1;1 1,0 3,2 9").due(13, "machine", 0, 1);
        shop("0 2,3 1;1 2,0 3,2 9").due(14, "machine", 0, 1);
        shop("0 2,3 1;1 3,0 3,2 9").due(15, "machine", 0, 1);
        // What has a TAIL of 1 makes way for a TAIL of 4, not for one as long.
        shop("0 9,3 1;1 1,0 2,2 4").due(12, "machine", 0, 1);
        shop("0 9,3 1;1 1,0 2,2 4").due(13, "machine", 0, 0);
        shop("0 9,3 1;1 1,0 2,2 1").due(12, "machine", 0, 1);
        shop("0 9,3 2;1 1,0 2,2 1").due(12, "machine", 0, 1);
        shop("0 9,3 1;1 1,0 2,2 2").due(12, "machine", 0, 1);
        // It makes way for a TAIL longer by 1, too: 11 ticks and 3 behind.
        shop("0 9,3 3;1 1,0 2,2 4").due(14, "machine", 0, 1);
    }

    /** "at each tick": also when it isn't the first one there that makes way */
    static void p20PreemptedLater() {
        // 2 .. 4 the one with HEAD 2, then 4 .. 6 that with HEAD 4 and TAIL 8, then 7 ticks and 1 behind.
        shop("1 2,0 9,3 1;2 4,0 2,4 8").due(14, "machine", 0, 1);
        shop("1 2,0 9,3 1;2 4,0 2,4 8").due(16, "machine", 0, 0);
    }

    /** PREEMPTED has no limit of TASKS: with all 24 on one MACHINE it never stands still, nor ends later */
    static void p20PreemptedTwentyFour() {
        String text = "0 7,0 3,0 11,0 5,0 2,0 13;0 1,0 17,0 4,0 9,0 6,0 8;0 19,0 2,0 3,0 5,0 7,0 1;0 10,0 10,0 1,0 23,0 3,0 15";
        shop(text).due(41 + 45 + 37 + 62, "machine", 0, 1);
        shop(text).due(LONG, "machine", 0, 0);
    }

    /** "when the last TAIL is over" */
    static void p20PreemptedTheLastTail() {
        shop("0 1,1 20;0 3").due(21, "machine", 0, 1);
        shop("0 1,1 2;0 3").due(4, "machine", 0, 1);
        shop("1 7,0 2").due(9, "machine", 0, 1);
    }

    /** "BAD; STATE; NOT ..; LONG" */
    static void p20State() {
        Scene.BARE.due(STATE, "machine", 0, 0);
        Scene.BARE.due(STATE, "machine", 4, 1);
        Scene.BARE.due(BAD, "machine", 5, 0);
        Scene.BARE.due(BAD, "machine", 0, 2);
    }

    // ---- Promise 21: bound

    /** "BOUND: the greatest of these, of all MACHINES that have TASKS, and of all LASTS of a JOB together" */
    static void p21TheGreatest() {
        shop("0 1").due(1, "bound");
        shop("0 5;0 6;1 9").due(11, "bound");
        shop("0 5;4 9;4 6").due(15, "bound");
        // On machine 0 both HEADS are 0: 1 and 2, then 9 behind; the JOB alone lasts 9.
        shop("0 1,1 9;0 2").due(10, "bound");
        shop("0 5,1 6,2 7;3 1").due(18, "bound");
        shop("3 1;0 5,1 6,2 7").due(18, "bound");
        shop(Scene.THREE).due(10, "bound");
    }

    /** "STATE; LONG" */
    static void p21StateLong() {
        Scene.BARE.due(STATE, "bound");
        Scene.SEVEN.due(LONG, "bound");
        shop(SIX_OF_ONE).due(6, "bound");
        shop(SIX_OF_ONE + ";1 50").due(50, "bound");
        shop("4 1,4 1,4 1,4 1,4 1,4 1;4 1").due(LONG, "bound");
        shop("3 99,3 1,3 1,3 1,3 1,3 1;0 99,3 1").due(LONG, "bound");
    }

    // ---- Promise 22: all

    /** "how many make no RING (what 0), the least SPAN (1). BAD" */
    static void p22What0To1() {
        shop(Scene.CROSS).due(3, "all", 0);
        shop(Scene.CROSS).due(7, "all", 1);
        for (int bad : new int[] {-1, 2, LOW, HIGH}) {
            Scene.BARE.due(BAD, "all", bad);
            Scene.FRESH.due(BAD, "all", bad);
            Scene.SEVEN.due(BAD, "all", bad);
            Scene.RINGED.due(BAD, "all", bad);
        }
    }

    /** "how many make no RING" */
    static void p22NoRing() {
        shop("0 1").due(1, "all", 0);
        shop("0 1,1 2").due(1, "all", 0);
        shop("0 1,0 1").due(1, "all", 0);
        shop("0 1;0 1").due(2, "all", 0);
        shop("0 1,0 1;0 1").due(3, "all", 0);
        shop("0 1,0 1;0 1,0 1").due(6, "all", 0);
        shop("0 1,1 1,2 1,3 1,4 1;0 1,1 1,2 1,3 1,4 1").due(32, "all", 0);
        shop("0 1,1 1,2 1,3 1,4 1;4 1,3 1,2 1,1 1,0 1").due(6, "all", 0);
    }

    /** "the least SPAN of these": of one alone, of the first, of the last, of one between */
    static void p22TheLeastSpan() {
        shop("0 7").due(7, "all", 1);
        shop("0 3,0 4").due(7, "all", 1);
        shop("0 1,1 9;0 5").due(10, "all", 1);
        shop("0 5;0 1,1 9").due(10, "all", 1);
        shop("0 5,1 1;0 1,1 9;0 2,1 2").due(13, "all", 1);
        shop(Scene.THREE).due(11, "all", 1);
    }

    /** "a MACHINE with n has n! ways; all ways together 720 at most, else LONG" */
    static void p22Ways720AtMost() {
        String six = "0 1;0 1;0 1;0 1;0 1;0 1";
        shop(six).due(720, "all", 0);
        shop(six).due(6, "all", 1);
        shop("0 1;0 1;0 1,1 1;0 1,1 1;0 1,1 1").due(720, "all", 0);
        shop("0 1,1 1;0 1,1 1;0 1,1 1;0 1,1 1").due(24 * 24, "all", 0);
        for (int what = 0; what < 2; what++) {
            // 4! 3! 3!, 6! 2!, 7!, 24!
            shop("0 1,1 1,2 1;0 1,1 1,2 1;0 1,1 1,2 1;0 1").due(LONG, "all", what);
            shop("0 1;0 1;0 1;0 1;0 1,1 1;0 1,1 1").due(LONG, "all", what);
            Scene.SEVEN.due(LONG, "all", what);
            String row = SIX_OF_ONE;
            shop(row + ";" + row + ";" + row + ";" + row).due(LONG, "all", what);
        }
    }

    /** "BAD; STATE; LONG" */
    static void p22State() {
        Scene.BARE.due(STATE, "all", 0);
        Scene.BARE.due(STATE, "all", 1);
    }

    // ---- Promise 23: chart

    private static void drawn(ShopFloor x, String want) {
        Check.due("bytes", x.chart(-1), want.length());
        StringBuilder got = new StringBuilder();
        for (int i = 0; i < want.length(); i++) got.append((char) x.chart(i));
        Check.due("chart\n" + got + "instead of\n" + want, got.toString().equals(want) ? 1 : 0, 1);
        Check.due("behind it", x.chart(want.length()), NOT);
    }

    /** "a row for each MACHINE ..; behind each row a byte 10 (MACHINES without TASKS too)" */
    static void p23ARowForEachMachine() {
        drawn(Check.made("0 1"), "0\n.\n.\n.\n.\n");
        drawn(Check.made("4 2;3 1"), "..\n..\n..\n1.\n00\n");
        drawn(Check.made("0 1;1 1;2 1;3 1;4 1;4 1"), "0.\n1.\n2.\n3.\n45\n");
    }

    /** "the JOB's figure that works there, or a dot", "at each tick START .. end less 1" */
    static void p23StartToEndLess1() {
        drawn(Check.made("0 2,1 3;1 4,0 1"), "00.......1\n..0001111.\n..........\n..........\n..........\n");
        ShopFloor x = Check.made(Scene.CROSS);
        x.turn(1, 0);
        drawn(x, "0..1111\n11100..\n.......\n.......\n.......\n");
    }

    /** "Byte i of the CHART (i -1: how many). BAD: i; .. NOT: it has fewer." */
    static void p23I() {
        Scene.FRESH.due(100, "chart", -1);
        Scene.FRESH.due(BAD, "chart", -2);
        Scene.FRESH.due(BAD, "chart", LOW);
        Scene.FRESH.due('0', "chart", 0);
        Scene.FRESH.due('.', "chart", 18);
        Scene.FRESH.due(10, "chart", 19);
        Scene.FRESH.due('.', "chart", 20);
        Scene.FRESH.due(10, "chart", 99);
        Scene.FRESH.due(NOT, "chart", 100);
        Scene.FRESH.due(NOT, "chart", HIGH);
        String row = "4 99,4 99,4 99,4 99,4 99,4 99";
        Scene longest = shop(row + ";" + row + ";" + row + ";" + row);
        longest.due(5 * 2377, "chart", -1);
        longest.due('3', "chart", 5 * 2377 - 2);
        longest.due(10, "chart", 5 * 2377 - 1);
        longest.due(NOT, "chart", 5 * 2377);
    }

    /** "BAD: i; STATE; RING; NOT" */
    static void p23StateRing() {
        Scene.BARE.due(BAD, "chart", -2);
        Scene.BARE.due(STATE, "chart", -1);
        Scene.BARE.due(STATE, "chart", HIGH);
        Scene.RINGED.due(BAD, "chart", -2);
        Scene.RINGED.due(RING, "chart", -1);
        Scene.RINGED.due(RING, "chart", 0);
        Scene.RINGED.due(RING, "chart", HIGH);
    }
}

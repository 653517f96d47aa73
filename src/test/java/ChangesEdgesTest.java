import java.util.ArrayList;
import java.util.LinkedHashMap;
import java.util.List;
import java.util.Map;
import java.util.function.Consumer;

/** "changes, the image" (promises 24 to 28, Terms 4): a test for each sentence with a boundary, on both sides. */
public final class ChangesEdgesTest {
    private static final int BAD = -1, NOT = -2, RING = -4, STATE = -5;
    private static final int LOW = Scene.LOW, HIGH = Scene.HIGH;
    /** Three on one machine and one behind: turns and steps make many unlike orders. */
    private static final String THREE_ON_ONE = "0 2,1 9;0 3,1 2;0 4,1 1";

    private ChangesEdgesTest() {
    }

    public static void main(String[] args) {
        Check.runAll(ChangesEdgesTest.class);
    }

    private static List<Integer> orders(ShopFloor x) {
        List<Integer> a = new ArrayList<>();
        for (int m = 0; m < 5; m++) {
            int machine = m;
            a.addAll(Probe.row(k -> x.order(machine, k)));
        }
        return a;
    }

    /** One CHANGE of each kind; each can be done whenever THREE_ON_ONE has had a step. */
    private static Map<String, Consumer<ShopFloor>> kinds() {
        Map<String, Consumer<ShopFloor>> kinds = new LinkedHashMap<>();
        kinds.put("turn", x -> x.turn(0, 1));
        kinds.put("does", x -> x.does(0));
        kinds.put("step", x -> x.step(1));
        kinds.put("dispatch", x -> x.dispatch(1));
        kinds.put("best", x -> x.best(1));
        return kinds;
    }

    private static Scene stepped() {
        return new Scene("one step").shop(THREE_ON_ONE).then(x -> x.step(1));
    }

    // ---- Promise 24: undo

    /** The orders ahead of each of so many turns, and behind the last one; all of MACHINE 0 is turned about. */
    private static List<List<Integer>> turned(ShopFloor x, int many) {
        List<List<Integer>> rows = new ArrayList<>();
        rows.add(Probe.row(k -> x.order(0, k)));
        for (int i = 0; i < many; i++) {
            x.turn(0, i % 2);
            Check.due("changes", x.count(3), Math.min(16, i + 1));
            rows.add(Probe.row(k -> x.order(0, k)));
        }
        return rows;
    }

    /** "16 at most are kept", "the latest first", "how many may still be. STATE: none" */
    static void p24SixteenAtMost() {
        for (int many = 0; many <= 20; many++) {
            ShopFloor x = Check.made(THREE_ON_ONE);
            List<List<Integer>> rows = turned(x, many);
            int may = Math.min(16, many);
            for (int i = 1; i <= may; i++) {
                Check.due("undo " + i + " of " + many, x.undo(), may - i);
                Check.same("orders ahead of it", Probe.row(k -> x.order(0, k)), rows.get(many - i));
                Check.due("may be done again", x.count(4), i);
            }
            Check.due("none of " + many, x.undo(), STATE);
            Check.same("changes nothing", Probe.row(k -> x.order(0, k)), rows.get(many - may));
        }
    }

    /** "and DONE AGAIN": as many as were UNDONE, the latest UNDONE first */
    static void p25AsManyAsWereUndone() {
        for (int many = 0; many <= 20; many++) {
            ShopFloor x = Check.made(THREE_ON_ONE);
            List<List<Integer>> rows = turned(x, many);
            int may = Math.min(16, many);
            for (int i = 0; i < may; i++) x.undo();
            for (int i = 1; i <= may; i++) {
                Check.due("redo " + i + " of " + many, x.redo(), may - i);
                Check.same("orders behind it", Probe.row(k -> x.order(0, k)), rows.get(many - may + i));
                Check.due("may be undone", x.count(3), i);
            }
            Check.due("none of " + many, x.redo(), STATE);
            Check.same("changes nothing", Probe.row(k -> x.order(0, k)), rows.get(many));
        }
    }

    /** "MOVES, STEPS, turns, DISPATCHED ORDERS (dispatch()), best() are CHANGES" */
    static void p24EachIsAChange() {
        for (Map.Entry<String, Consumer<ShopFloor>> kind : kinds().entrySet()) {
            ShopFloor x = stepped().made();
            List<Integer> ahead = orders(x);
            kind.getValue().accept(x);
            List<Integer> behind = orders(x);
            Check.due("changes by " + kind.getKey(), x.count(3), 2);
            Check.due("undo of " + kind.getKey(), x.undo(), 1);
            Check.same("orders ahead of " + kind.getKey(), orders(x), ahead);
            Check.due("redo of " + kind.getKey(), x.redo(), 0);
            Check.same("orders behind " + kind.getKey(), orders(x), behind);
        }
    }

    /** "16 at most are kept": of each kind, and of many STEPS by one call */
    static void p24SixteenOfEachKind() {
        for (Map.Entry<String, Consumer<ShopFloor>> kind : kinds().entrySet()) {
            ShopFloor x = Check.made(Scene.FRO);
            x.step(1);
            for (int i = 2; i <= 18; i++) {
                if (kind.getKey().equals("turn")) x.turn(0, 0);
                else kind.getValue().accept(x);
                Check.due("changes by " + kind.getKey(), x.count(3), Math.min(16, i));
            }
        }
        ShopFloor x = Check.made(Scene.FRO);
        x.step(15);
        Check.due("15", x.count(3), 15);
        x.step(1);
        Check.due("16", x.count(3), 16);
        x.step(1);
        Check.due("17", x.count(3), 16);
        Check.due("all at once", Check.made(Scene.FRO).step(30), 30);
    }

    /** "(also if nothing is other then)" */
    static void p24AlsoIfNothingIsOther() {
        ShopFloor x = Check.made("0 1;0 2");
        for (int i = 1; i <= 17; i++) {
            Check.due("the same", x.dispatch(0), 3);
            Check.due("changes", x.count(3), Math.min(16, i));
        }
        x.turn(0, 0);
        x.dispatch(1);
        Check.order(x, 0, 1, 0);
        Check.due("of nothing", x.undo(), 15);
        Check.order(x, 0, 1, 0);
        Check.due("of the turn", x.undo(), 14);
        Check.order(x, 0, 0, 1);
    }

    /** "They bring back ORDERS alone: what TABU keeps, LEAST, BEST stay" */
    static void p24BringsBackOrdersAlone() {
        ShopFloor x = Check.made(Scene.THREE);
        x.step(6);
        List<Integer> kept = Probe.row(x::kept);
        int least = x.best(0);
        for (int i = 0; i < 6; i++) x.undo();
        Check.order(x, 1, 1, 5, 6);
        Check.same("kept", Probe.row(x::kept), kept);
        Check.due("least", x.best(0), least);
        Check.due("steps so far", x.count(5), 6);
        for (int i = 0; i < 6; i++) x.redo();
        Check.same("kept", Probe.row(x::kept), kept);
        Check.due("least", x.best(0), least);
        Check.due("steps so far", x.count(5), 6);
        Check.due("best", x.best(1), least);
    }

    /** "UNDONE .. STATE: none": without a SHOP, of a new SHOP, behind back() */
    static void p24None() {
        Scene.BARE.due(STATE, "undo");
        Scene.FRESH.due(STATE, "undo");
        Scene.WORN_AND_TAPE.then(ShopFloor::undo).due(STATE, "undo");
        Scene.WORN.then(ShopFloor::back).due(STATE, "undo");
        Scene.WORN.shop("0 1").due(STATE, "undo");
        Check.due("one", Scene.WORN.made().undo(), 0);
        Check.due("in a ring", Scene.RINGED.made().undo(), 2);
    }

    /** a STEP that finds it HOME, and what is refused, is no CHANGE */
    static void p24NoChangeByNothingDone() {
        ShopFloor x = Check.made(Scene.HOMES);
        x.step(30);
        Check.due("home", x.count(3), 0);
        x.does(0);
        Check.due("no move", x.count(3), 0);
        x.turn(0, 2);
        Check.due("no next one", x.count(3), 0);
        x.dispatch(4);
        Check.due("no rule", x.count(3), 0);
        x.best(2);
        Check.due("no such best", x.count(3), 0);
        x.tabu(1);
        x.image();
        x.would(0);
        Check.due("no changes", x.count(3), 0);
        x.best(1);
        Check.due("no step since", x.count(3), 0);
    }

    // ---- Promise 25: redo

    /** "(as long as no other came behind)" */
    static void p25AsLongAsNoOtherCameBehind() {
        for (Map.Entry<String, Consumer<ShopFloor>> kind : kinds().entrySet()) {
            ShopFloor x = stepped().made();
            x.turn(0, 0);
            x.turn(0, 1);
            x.undo();
            x.undo();
            Check.due("two", x.count(4), 2);
            kind.getValue().accept(x);
            Check.due("none behind " + kind.getKey(), x.count(4), 0);
            Check.due("none behind " + kind.getKey(), x.redo(), STATE);
        }
    }

    /** what is no CHANGE leaves what may be DONE AGAIN */
    static void p25StaysBehindWhatIsNoChange() {
        ShopFloor x = Check.made(Scene.HOMES);
        x.turn(0, 0);
        x.undo();
        x.step(3);
        x.tabu(2);
        x.image();
        x.would(1);
        x.all(0);
        x.best(1);
        x.does(0);
        Check.due("a fault", Check.shop(x, "0 0"), -102);
        Check.due("one still", x.count(4), 1);
        Check.due("done again", x.redo(), 0);
        Check.order(x, 0, 1, 0, 2);
    }

    /** "how many may still be. STATE: none." */
    static void p25None() {
        Scene.BARE.due(STATE, "redo");
        Scene.FRESH.due(STATE, "redo");
        ShopFloor x = Scene.WORN.made();
        for (int i = 3; i >= 0; i--) Check.due("redo", x.redo(), i);
        Check.due("none", x.redo(), STATE);
        Scene.WORN_AND_TAPE.then(y -> {
            for (int i = 0; i < 4; i++) y.redo();
        }).due(STATE, "redo");
        Scene.WORN.then(ShopFloor::back).due(STATE, "redo");
        Scene.WORN.shop("0 1").due(STATE, "redo");
        ShopFloor ring = Scene.RINGED.made();
        Check.due("out of a ring", ring.redo(), 0);
        Check.due("span", ring.span(), 10);
        ring.undo();
        Check.due("ring", ring.span(), RING);
    }

    /** "A MOVE done by hand, turn(), dispatch(), best(1), undo(), redo() change neither LEAST, BEST nor what is kept" */
    static void p25NeitherLeastNorBestNorKept() {
        Map<String, Consumer<ShopFloor>> kinds = kinds();
        kinds.remove("step");
        kinds.put("undo", ShopFloor::undo);
        kinds.put("redo", x -> {
            x.undo();
            x.redo();
        });
        for (Map.Entry<String, Consumer<ShopFloor>> kind : kinds.entrySet()) {
            ShopFloor x = stepped().made();
            ShopFloor y = stepped().made();
            kind.getValue().accept(x);
            Check.same("kept behind " + kind.getKey(), Probe.row(x::kept), Probe.row(y::kept));
            Check.due("least behind " + kind.getKey(), x.best(0), y.best(0));
            Check.due("best behind " + kind.getKey(), x.best(1), y.best(1));
            Check.same("best behind " + kind.getKey(), orders(x), orders(y));
        }
    }

    // ---- Promise 26: image

    /** "AN IMAGE is kept: TASKS. STATE." */
    static void p26Tasks() {
        Scene.BARE.due(STATE, "image");
        Check.due("tasks", Scene.FRESH.made().image(), 8);
        Check.due("in a ring, too", Scene.RINGED.made().image(), 4);
        Check.due("one", Check.made("0 1").image(), 1);
        String six = "0 1,0 1,0 1,0 1,0 1,0 1";
        Check.due("24", Check.made(six + ";" + six + ";" + six + ";" + six).image(), 24);
    }

    /** "AN IMAGE keeps the SHOP and ORDERS": and changes nothing but the image */
    static void p26ChangesNothingElse() {
        // The images are alike ahead of it, so behind it nothing may be other.
        Scene imaged = Scene.WORN_AND_TAPE.then(ShopFloor::image);
        imaged.then(ShopFloor::image).alike("image() again", imaged);
        for (Probe p : new Probe[] {Probe.LOOK, Probe.TIMES, Probe.UNDO, Probe.REDO, Probe.BEST, Probe.TAPE, Probe.T, Probe.STEP}) {
            Check.same("image(), then " + p, p.ask(imaged.made()), p.ask(Scene.WORN_AND_TAPE.made()));
        }
    }

    /** the image is as it was then, whatever comes behind; the latest one counts */
    static void p26TheLatestOne() {
        ShopFloor x = Check.made(Scene.CROSS);
        x.image();
        x.turn(1, 0);
        Check.due("turned", x.span(), 7);
        x.back();
        Check.due("as it was", x.span(), 10);
        x.turn(1, 0);
        x.image();
        Check.shop(x, "0 1");
        x.back();
        Check.due("the latest", x.span(), 7);
        x.turn(0, 0);
        Check.due("laid back again", x.back(), 4);
        Check.due("as it was", x.span(), 7);
    }

    // ---- Promise 27: back

    /** "It is laid back ..: TASKS. STATE: there is none." */
    static void p27Tasks() {
        Scene.BARE.due(STATE, "back");
        Scene.FRESH.due(STATE, "back");
        ShopFloor x = Check.made("0 1;1 2,3 4");
        x.image();
        Check.shop(x, "4 9");
        Check.due("tasks", x.back(), 3);
        Check.due("jobs", x.count(0), 2);
        Check.due("machine", x.task(2, 2), 3);
        Check.due("lasts", x.task(2, 3), 4);
        Check.due("no other machine", x.order(4, -1), 0);
        Check.due("bound", x.bound(), 6);
        Check.due("all", x.all(0), 1);
        Check.shop(x, Scene.CROSS);
        Check.due("larger ahead", x.back(), 3);
        Check.due("no fourth", x.task(3, 0), BAD);
    }

    /** "(no CHANGES, nothing kept by TABU, no BEST then)", "(T stays, and count() 5 goes on)" */
    static void p27TakesOff() {
        ShopFloor x = Scene.WORN_AND_TAPE.made();
        Check.due("back", x.back(), 8);
        Check.due("no changes", x.count(3), 0);
        Check.due("none to be done again", x.count(4), 0);
        Check.kept(x);
        Check.due("no least", x.best(0), NOT);
        Check.due("no best", x.best(1), NOT);
        Check.due("the tape stays", x.count(2), 3);
        Check.due("moves so far", x.count(5), 5);
        Check.due("a step", x.step(1), 1);
        Check.due("goes on", x.count(5), 6);
        Check.due("T stays", x.tabu(4), 3);
    }

    /** what is laid back answers as on a new object: nothing of the SHOP ahead of it is left */
    static void p27NothingOfTheShopAheadIsLeft() {
        String[] texts = {"0 1", "4 9,4 9", Scene.THREE, Scene.CROSS, Scene.HOMES, Scene.SEVEN_ON_ONE,
            "0 5,1 6,2 7;3 1;4 2", "1 2,0 3;0 4,1 5;2 6,3 7,0 8"};
        for (String text : texts) {
            Scene kept = new Scene("an image").shop(text).then(ShopFloor::image);
            for (String ahead : texts) {
                Scene other = kept.shop(ahead).then(x -> {
                    for (int m = 0; m < 5; m++) x.machine(m, 0);
                    x.bound();
                    x.all(0);
                    x.would(2);
                });
                other.then(ShopFloor::back).alike("\"" + text + "\" laid back upon \"" + ahead + "\"", kept);
            }
        }
    }

    /** "AN IMAGE keeps the SHOP and ORDERS": an order with a RING, too */
    static void p27Ring() {
        ShopFloor x = Scene.RINGED.made();
        x.image();
        Check.shop(x, "0 1");
        Check.due("back", x.back(), 4);
        Check.due("ring", x.span(), RING);
        Check.order(x, 0, 3, 0);
        Check.order(x, 1, 1, 2);
    }

    // ---- Promise 28: count

    /** "0 JOBS, 1 TASKS, 2 bytes on THE TAPE, 3 CHANGES .., 4 .. DONE AGAIN, 5 MOVES that STEPS did so far. BAD." */
    static void p28What0To5() {
        int[] want = {3, 8, 3, 1, 4, 5};
        for (int what = 0; what < 6; what++) Scene.WORN_AND_TAPE.due(want[what], "count", what);
        for (int what = 0; what < 6; what++) Scene.BARE.due(what == 2 ? 3 : 0, "count", what);
        for (int bad : new int[] {-1, 6, LOW, HIGH}) {
            Scene.BARE.due(BAD, "count", bad);
            Scene.WORN_AND_TAPE.due(BAD, "count", bad);
            Scene.RINGED.due(BAD, "count", bad);
        }
    }

    /** "5 MOVES that STEPS did so far (since the first SHOP)": by STEPS alone, and none taken off */
    static void p28MovesThatStepsDid() {
        ShopFloor x = Check.made(Scene.FRO);
        x.does(0);
        x.turn(0, 0);
        Check.due("by hand", x.count(5), 0);
        x.step(2);
        Check.due("two", x.count(5), 2);
        x.undo();
        x.redo();
        x.undo();
        Check.due("undone", x.count(5), 2);
        x.tabu(4);
        Check.due("T told", x.count(5), 2);
        Check.shop(x, Scene.HOMES);
        Check.due("a new shop", x.count(5), 2);
        x.step(30);
        Check.due("home", x.count(5), 2);
        x.step(31);
        Check.due("refused", x.count(5), 2);
        Check.shop(x, Scene.FRO);
        for (int i = 0; i < 10; i++) x.step(30);
        Check.due("many", x.count(5), 302);
    }
}

import java.lang.reflect.Method;
import java.util.ArrayList;
import java.util.Arrays;
import java.util.List;
import java.util.Set;
import java.util.function.Consumer;

/** A run of calls that can be made again, so that two objects can stand alike and be compared. */
final class Scene {
    static final int LOW = Integer.MIN_VALUE;
    static final int HIGH = Integer.MAX_VALUE;
    /** MACHINE 0 has tasks 0, 3; MACHINE 1 has 1, 5, 6; MACHINE 2 has 2, 4, 7; SPAN 19, at best 11. */
    static final String THREE = "0 3,1 2,2 2;0 2,2 1,1 4;1 4,2 3";
    /** Two jobs that meet on machines 0 and 1 the other way round; SPAN 10, at best 7. */
    static final String CROSS = "0 1,1 2;1 3,0 4";
    /** MACHINE 0 has tasks 0 and 2; whichever is first, the span is 13, and there is a move. */
    static final String FRO = "0 2,1 9;0 2,2 9";
    /** Tasks 0, 1, 2 on MACHINE 0. It is HOME at first with 15, and with 1, 2, 0 there with 14. */
    static final String HOMES = "0 1;0 2,0 3,1 9";
    static final String SEVEN_ON_ONE = "0 1,0 1,0 1,0 1,0 1,0 1;0 1";

    static final Scene BARE = new Scene("no shop").tape("4 7");
    static final Scene FRESH = new Scene("a fresh shop").shop(THREE).tape("4 7");
    /** Steps, an image, changes undone and more to be done again; nothing on the tape. */
    static final Scene WORN = new Scene("a worn shop").shop(THREE).then(x -> {
        x.tabu(3);
        x.step(3);
        x.image();
        x.step(2);
        for (int i = 0; i < 4; i++) x.undo();
    });
    static final Scene WORN_AND_TAPE = WORN.tape("4 7");
    /** A ring with a LEAST, something kept, an image, changes behind it and ahead. */
    static final Scene RINGED = new Scene("a ring").shop(CROSS).then(x -> {
        x.step(1);
        x.image();
        x.turn(1, 0);
        x.turn(0, 0);
        x.turn(1, 0);
        x.undo();
    }).tape("4 7");
    static final Scene SEVEN = new Scene("seven on one machine").shop(SEVEN_ON_ONE).tape("4 7");

    private static final Set<String> ASKING = Set.of("task", "order", "span", "of", "way", "block", "move", "brings",
            "kept", "would", "machine", "bound", "all", "chart", "count");

    private final String name;
    private final List<Consumer<ShopFloor>> calls = new ArrayList<>();

    Scene(String name) {
        this.name = name;
    }

    Scene then(Consumer<ShopFloor> call) {
        Scene other = new Scene(name);
        other.calls.addAll(calls);
        other.calls.add(call);
        return other;
    }

    Scene tape(String text) {
        return then(x -> Check.feed(x, text));
    }

    Scene shop(String text) {
        return tape(text).then(ShopFloor::shop);
    }

    ShopFloor made() {
        ShopFloor x = new ShopFloor();
        for (Consumer<ShopFloor> call : calls) call.accept(x);
        return x;
    }

    /** The call answers so here; if it refuses or just asks, all others answer then as if it had not been. */
    void due(int want, String call, int... args) {
        String told = name + ": " + call + Arrays.toString(args);
        Check.due(told, call(made(), call, args), want);
        // A turn into a ring is done all the same; a FAULT empties the tape.
        boolean done = call.equals("turn") && want == ShopFloor.RING || call.equals("shop");
        boolean refused = want < 0 && !done;
        boolean asks = ASKING.contains(call) || call.equals("best") && args[0] == 0;
        if (refused || asks) {
            then(x -> call(x, call, args)).alike(told, this);
        }
    }

    /** Whatever is asked, this scene and the other one answer alike. */
    void alike(String told, Scene other) {
        for (Probe p : Probe.values()) {
            Check.same(told + ", then " + p, p.ask(made()), p.ask(other.made()));
        }
    }

    private static int call(ShopFloor x, String call, int... args) {
        Class<?>[] types = new Class<?>[args.length];
        Arrays.fill(types, int.class);
        Object[] values = Arrays.stream(args).boxed().toArray();
        try {
            Method m = ShopFloor.class.getMethod(call, types);
            return (Integer) m.invoke(x, values);
        } catch (ReflectiveOperationException e) {
            throw new IllegalStateException(call + Arrays.toString(args), e);
        }
    }
}

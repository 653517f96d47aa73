import java.lang.reflect.Method;
import java.util.Arrays;
import java.util.Comparator;
import java.util.List;

/** What the tests share: answers that are due are counted and told, texts are fed. */
final class Check {
    private static int wrong = 0;
    private static int looked = 0;
    private static String test = "";

    private Check() {
    }

    static void due(String call, long got, long want) {
        looked++;
        if (got != want) {
            tell(call + " answered " + got + ", due is " + want);
        }
    }

    static void same(String what, List<Integer> got, List<Integer> want) {
        looked++;
        if (!got.equals(want)) {
            tell(what + ": " + got + ", due is " + want);
        }
    }

    private static void tell(String what) {
        wrong++;
        if (wrong <= 40) {
            System.out.println(test + what);
        }
    }

    static boolean anyWrong() {
        return wrong > 0;
    }

    /** Runs every test of a class (the methods named pNN.., by the promise), so that none is forgotten. */
    static void runAll(Class<?> tests) {
        Method[] methods = tests.getDeclaredMethods();
        Arrays.sort(methods, Comparator.comparing(Method::getName));
        int ran = 0;
        for (Method m : methods) {
            if (m.getName().matches("p\\d\\d.*")) {
                test = m.getName() + ": ";
                ran++;
                try {
                    m.invoke(null);
                } catch (ReflectiveOperationException e) {
                    e.printStackTrace(System.out);
                    tell("does not run: " + e);
                }
            }
        }
        test = "";
        System.out.print(ran + " tests, ");
        end();
    }

    /** Tells how it went, and ends with exit code 1 if an answer was wrong. */
    static void end() {
        System.out.println(wrong == 0 ? looked + " answers are as due" : wrong + " of " + looked + " answers are not as due");
        if (wrong != 0) {
            System.exit(1);
        }
    }

    static void feed(ShopFloor x, String text) {
        int ahead = x.count(2);
        for (int i = 0; i < text.length(); i++) {
            due("feed of \"" + text + "\" at " + i, x.feed(text.charAt(i)), ahead + i + 1);
        }
    }

    static int shop(ShopFloor x, String text) {
        feed(x, text);
        return x.shop();
    }

    static ShopFloor made(String text) {
        ShopFloor x = new ShopFloor();
        int answer = shop(x, text);
        due("shop() of \"" + text + "\" is a shop", answer > 0 ? 1 : answer, 1);
        return x;
    }

    static void order(ShopFloor x, int machine, Integer... tasks) {
        same("order of machine " + machine, Probe.row(k -> x.order(machine, k)), List.of(tasks));
    }

    static void way(ShopFloor x, Integer... tasks) {
        same("way", Probe.row(x::way), List.of(tasks));
    }

    static void blocks(ShopFloor x, Integer... sizes) {
        same("blocks", Probe.row(x::block), List.of(sizes));
    }

    static void moves(ShopFloor x, Integer... moves) {
        same("moves", Probe.row(x::move), List.of(moves));
    }

    static void kept(ShopFloor x, Integer... moves) {
        same("kept", Probe.row(x::kept), List.of(moves));
    }
}

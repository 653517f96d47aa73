/** What the tests share: answers that are due are counted and told, texts are fed. */
final class Check {
    private static int wrong = 0;
    private static int looked = 0;

    private Check() {
    }

    static void due(String call, long got, long want) {
        looked++;
        if (got != want) {
            wrong++;
            if (wrong <= 40) {
                System.out.println(call + " answered " + got + ", due is " + want);
            }
        }
    }

    static boolean anyWrong() {
        return wrong > 0;
    }

    /** Tells how it went, and ends with exit code 1 if an answer was wrong. */
    static void end() {
        System.out.println(wrong == 0 ? looked + " answers are as due" : wrong + " of " + looked + " answers are not as due");
        if (wrong != 0) {
            System.exit(1);
        }
    }

    static void feed(ShopFloor x, String text) {
        for (int i = 0; i < text.length(); i++) {
            due("feed of \"" + text + "\" at " + i, x.feed(text.charAt(i)), x.count(2));
        }
    }

    static int shop(ShopFloor x, String text) {
        feed(x, text);
        return x.shop();
    }

    static ShopFloor made(String text) {
        ShopFloor x = new ShopFloor();
        int answer = shop(x, text);
        due("shop() of \"" + text + "\" is a shop", answer > 0 ? 1 : answer, 1);
        return x;
    }
}

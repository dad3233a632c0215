/** What the tests share: comparing answers, typing texts, and the end of a test. */
final class Due {
    static final int BAD = -1, STATE = -2, FULL = -3, NONE = -9;
    static final int[] LIGHT = {1, 22, 96, 75};

    private static int wrong = 0;
    private static int compared = 0;
    private static String sentence = "";

    private Due() {
    }

    /** Names the sentence of the document that the answers from here on are due by. */
    static void by(String saidThere) {
        sentence = "\"" + saidThere + "\": ";
    }

    static void is(String what, String got, String want) {
        compared++;
        if (!got.equals(want)) {
            wrong++;
            System.out.println(sentence + what + " shows\n  " + got + "\n  due is\n  " + want);
        }
    }

    static void is(String what, long got, long want) {
        compared++;
        if (got != want) {
            wrong++;
            if (wrong <= 50) {
                System.out.println(sentence + what + " answered " + got + ", due is " + want);
            }
        }
    }

    static boolean anyWrong() {
        return wrong != 0;
    }

    static void end() {
        System.out.println(wrong + " of " + compared + " answers are not as due");
        if (wrong != 0) {
            System.exit(1);
        }
    }

    static void type(TwistedLight x, String text) {
        int characters = x.count(6);
        for (int i = 0; i < text.length(); i++) {
            characters++;
            is("type " + (int) text.charAt(i), x.type(text.charAt(i)), characters);
        }
    }

    /** A new object that was told a text. */
    static TwistedLight told(String text) {
        TwistedLight x = new TwistedLight();
        type(x, text);
        int items = x.block();
        is("block() of " + text + " is without a fault", items < 0 ? items : 0, 0);
        return x;
    }

    /** The symbol whose light is nearest, as the document says it. */
    static int decided(int number) {
        int best = 0;
        int nearest = 1000;
        for (int s = 0; s < 4; s++) {
            int distance = Math.min(Math.floorMod(number - LIGHT[s], 97), Math.floorMod(LIGHT[s] - number, 97));
            if (distance < nearest) {
                nearest = distance;
                best = s;
            }
        }
        return best;
    }

    static int[] outside(int least, int most) {
        return new int[] {least - 1, most + 1, Integer.MIN_VALUE, Integer.MAX_VALUE, -1000, 1000};
    }
}

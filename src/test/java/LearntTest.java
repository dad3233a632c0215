/** Promises 20 to 24: taps, skew, spreads, order and lag. */
public final class LearntTest {
    public static void main(String[] args) {
        taps();
        tapsThatAreNone();
        tapsRefused();
        skew();
        skewTies();
        skewIfNearlyAllIsWrong();
        spreads();
        spreadsOfMarksAlone();
        order();
        orderTies();
        orderUsesAllStages();
        orderOfFour();
        lastOrder();
        orderIfAllIsWrong();
        lag();
        Due.end();
    }

    private static void taps() {
        TwistedLight x = Due.told("x0 2 1 3;y0 1 3;d1 2 5 1 3;");
        int[] inverse = {3, 92, 96, 2};
        for (int what = 0; what < 4; what++) {
            Due.is("taps(0, 1, " + what + ")", x.taps(0, 1, what), inverse[what]);
            Due.is("taps(1, 0, " + what + ")", x.taps(1, 0, what), inverse[what]);
            Due.is("taps(2, 15, " + what + ")", x.taps(2, 15, what), inverse[what]);
        }
        x.stages(1, 2, 5, 1, 3);
        int[] unit = {1, 0, 0, 1};
        for (int what = 0; what < 4; what++) {
            Due.is("taps of what is received, " + what, x.taps(0, 1, what), unit[what]);
        }
        // Row 1 is turned by 1, so its tap turns it by 3.
        TwistedLight y = Due.told("y0 1;d1 1 0 0 22;");
        int[] turned = {1, 0, 0, 75};
        for (int what = 0; what < 4; what++) {
            Due.is("taps of a turn, " + what, y.taps(0, 1, what), turned[what]);
        }
    }

    private static void tapsThatAreNone() {
        TwistedLight x = new TwistedLight();
        Due.is("more than one choice", x.taps(0, 1, 0), Due.NONE);
        x.adds(4, 0, 0, 5, 0);
        Due.is("what is sent is the same, what is received is not", x.taps(0, 1, 3), Due.NONE);
        TwistedLight y = Due.told("y0 1;d4 1 1 76 0;");
        // 22 + 76 = 1: both places receive the same, but different symbols are sent.
        Due.is("no such numbers", y.taps(0, 1, 0), Due.NONE);
        Due.is("other places have none either", y.taps(2, 3, 1), Due.NONE);
    }

    private static void tapsRefused() {
        TwistedLight x = Due.told("y0 1;");
        Due.is("taps(0, 1, 3)", x.taps(0, 1, 3), 1);
        for (int place : Due.outside(0, 15)) {
            Due.is("taps(" + place + ", 1, 0)", x.taps(place, 1, 0), Due.BAD);
            Due.is("taps(0, " + place + ", 0)", x.taps(0, place, 0), Due.BAD);
        }
        for (int what : Due.outside(0, 3)) {
            Due.is("taps(0, 1, " + what + ")", x.taps(0, 1, what), Due.BAD);
            Due.is("taps(0, 2, " + what + ") without taps", x.taps(0, 2, what), Due.BAD);
        }
        for (int place = 0; place < 16; place++) {
            Due.is("taps of one place " + place, x.taps(place, place, 0), Due.BAD);
        }
    }

    private static void skew() {
        for (int by = 1; by < 16; by++) {
            TwistedLight x = Due.told("y1 0 0 0 2 0 0 0 3 0 0 0 0;d3 " + by + " 0 0 0;");
            Due.is("skew() of late by " + by, x.skew(), by);
        }
        TwistedLight x = Due.told("y1 0 0 0 2 0 0 0 3 0 0 0 0;d3 5 0 0 0;");
        x.stages(2, 2, 0, 0, 0);
        Due.is("skew() behind early by 2", x.skew(), 3);
        x.stages(2, 3, 0, 0, 0);
        Due.is("skew() behind early by 5", x.skew(), 0);
        Due.is("skew() is no act", x.count(7), 3);
    }

    private static void skewTies() {
        TwistedLight x = Due.told("y1 0 0 0 1 0 0 0 1 0 0 0 1;d3 6 0 0 0;");
        Due.is("the smallest of 2, 6, 10 and 14", x.skew(), 2);
        TwistedLight unmarked = Due.told("m;y1;d3 6 0 0 0;");
        Due.is("without marks", unmarked.skew(), 0);
        // Row 0 is wrong at both marks whatever n is.
        TwistedLight row0 = Due.told("m0 1;y1 2;d3 9 0 0 0;d4 0 0 50 0;d4 0 1 50 0;");
        Due.is("row 0 does not matter", row0.skew(), 9);
        // Place 3 alone is marked: 0 is sent there, and 1 arrives from place 2 for n = 15 alone.
        TwistedLight unseen = Due.told("m3;y1 1 1;d3 1 0 0 0;");
        Due.is("unmarked places do not matter", unseen.skew(), 1);
    }

    /** All is turned by 2, so row 0 is wrong whatever n is, and of row 1 at most one number is right. */
    private static void skewIfNearlyAllIsWrong() {
        TwistedLight x = Due.told("m0 1 2 3 4 5 6 7 8 9 10 11 12 13 14 15;y0 0 0 0 0 2;d2 0 2 0 0;d4 1 5 21 0;");
        Due.is("all is wrong", x.count(3), 32);
        Due.is("the smallest n with 31 wrong", x.skew(), 1);
        TwistedLight one = Due.told("m0 1 2 3 4 5 6 7 8 9 10 11 12 13 14 15;y0 1;d2 0 2 0 0;d4 1 7 20 0;");
        Due.is("all is wrong", one.count(3), 32);
        Due.is("n = 6 alone has 31 wrong", one.skew(), 6);
    }

    private static void spreads() {
        TwistedLight x = new TwistedLight();
        Due.is("spreads(0)", x.spreads(0), 9);
        Due.is("spreads(1)", x.spreads(1), 13);
        x.adds(0, 3, 0, 0, 0);
        x.stages(0, 3, 0, 0, 0);
        Due.is("spreads(0) of what is received", x.spreads(0), 9);
        x.drops(0);
        Due.is("spreads(1) of a spread by 3", x.spreads(1), 3);
        TwistedLight y = Due.told("x0 1 2 3 0 1 3 2 2 3 1 0;y3 2 1 0 2 1 0 1 2 3;d0 29 0 0 0;"
                + "m0 1 2 3 4 5 6 7 8 9 10 11 12 13 14 15;");
        Due.is("one spread fits", y.spreads(0), 1);
        Due.is("it is the one", y.spreads(1), 29);
        y.adds(4, 0, 7, 40, 0);
        y.adds(4, 0, 3, 40, 0);
        Due.is("none fits", y.spreads(0), 0);
        Due.is("none is the smallest", y.spreads(1), Due.NONE);
        spreadsOfOneMark(0, 0);
        spreadsOfOneMark(1, 15);
        for (int what : Due.outside(0, 1)) {
            Due.is("spreads(" + what + ")", y.spreads(what), Due.BAD);
        }
    }

    /** Compares with trying each unspread as a stage. */
    private static void spreadsOfOneMark(int row, int place) {
        TwistedLight x = Due.told("m" + place + ";");
        int fitting = x.spreads(0);
        x.adds(4, row, place, 49, 0);
        int due = 0;
        for (int a = 1; a <= 96; a++) {
            if (x.stages(0, a, 0, 0, 0) == 1) {
                due += x.at(0, place, 3) == 0 && x.at(1, place, 3) == 0 ? 1 : 0;
                x.drops(0);
            }
        }
        Due.is("spreads(0) with a mark at " + place + " hit in row " + row, x.spreads(0), due);
        Due.is("the hit matters", due == fitting ? 1 : 0, 0);
    }

    private static void spreadsOfMarksAlone() {
        TwistedLight x = Due.told("m;d4 0 0 50 0;");
        Due.is("without marks all fit", x.spreads(0), 80);
        Due.is("the smallest is 2", x.spreads(1), 2);
        int sixteenth = 0;
        for (int a = 1; a <= 96; a++) {
            long power = 1;
            for (int k = 0; k < 16; k++) {
                power = power * a % 97;
            }
            sixteenth += power == 1 ? 1 : 0;
        }
        Due.is("numbers that are no spread", sixteenth, 16);
    }

    private static TwistedLight lateAndTwisted() {
        TwistedLight x = Due.told("y0 0 0 1;d3 2 0 0 0;d1 2 5 1 3;");
        x.stages(2, 2, 0, 0, 0);
        x.stages(1, 2, 5, 1, 3);
        return x;
    }

    private static void order() {
        TwistedLight x = new TwistedLight();
        x.adds(2, 13, 1, 0, 0);
        Due.is("order(-1) without stages", x.order(-1), 6);
        Due.is("order(0) without stages", x.order(0), Due.NONE);
        x = lateAndTwisted();
        Due.is("order(-1)", x.order(-1), 0);
        Due.is("order(0)", x.order(0), 1);
        Due.is("order(1)", x.order(1), 0);
        Due.is("order(2)", x.order(2), Due.NONE);
        Due.is("order(MAX)", x.order(Integer.MAX_VALUE), Due.NONE);
        Due.is("order(-2)", x.order(-2), Due.BAD);
        Due.is("order(MIN)", x.order(Integer.MIN_VALUE), Due.BAD);
        Due.is("stage(0, 0) stays", x.stage(0, 0), 2);
        Due.is("order() is no act", x.count(7), 3);
    }

    private static void orderTies() {
        TwistedLight x = new TwistedLight();
        x.stages(2, 3, 0, 0, 0);
        x.stages(2, 4, 0, 0, 0);
        x.stages(2, 9, 0, 0, 0);
        for (int k = 0; k < 3; k++) {
            Due.is("order(" + k + ") of a tie", x.order(k), k);
        }
        Due.is("orders() of a tie", x.orders(), Due.STATE);
    }

    /** Each of these stages harms, so that fewer of them would have fewer errors. */
    private static void orderUsesAllStages() {
        TwistedLight x = Due.told("y1 0 0 2 0 3 0 0 1;");
        int size = 0;
        for (int by : new int[] {3, 7, 2}) {
            size++;
            x.stages(2, by, 0, 0, 0);
            Due.is(size + " stages harm", x.wrong(size) > x.wrong(0) ? 1 : 0, 1);
            Due.is("order(-1) of " + size + " stages that harm", x.order(-1), x.wrong(size));
            for (int k = 0; k < size; k++) {
                Due.is("order(" + k + ") of " + size + " stages that harm", x.order(k), k);
            }
            Due.is("orders() of " + size + " stages that harm", x.orders(), Due.STATE);
        }
    }

    /** Late, twisted, spread, turned: only one order of the four stages undoes them. */
    private static void orderOfFour() {
        TwistedLight x = Due.told("x0 1 2 3 0 1 3 2 2 3 1 0;y3 2 1 0 2 1 0 1 2 3;"
                + "d2 6 2 0 0;d3 2 0 0 0;d0 7 0 0 0;d1 2 5 1 3;");
        x.stages(2, 2, 0, 0, 0);
        x.stages(4, 0, 0, 0, 0);
        x.stages(1, 2, 5, 1, 3);
        x.stages(0, 7, 0, 0, 0);
        int least = 4;
        Due.is("order(-1): places 6 and 7 stay turned", x.order(-1), least);
        // Early may come before unspread and behind it: the spread is the same for both rows.
        int[] best = {2, 0, 3, 1};
        for (int k = 0; k < 4; k++) {
            Due.is("order(" + k + ") of four", x.order(k), best[k]);
        }
        Due.is("orders() of four", x.orders(), least);
        Due.is("stage(0, 0)", x.stage(0, 0), 1);
        Due.is("stage(1, 0)", x.stage(1, 0), 2);
        Due.is("stage(2, 0)", x.stage(2, 0), 0);
        Due.is("stage(2, 1)", x.stage(2, 1), 7);
        Due.is("stage(3, 0)", x.stage(3, 0), 4);
        Due.is("count(3)", x.count(3), least);
        Due.is("order(3) then", x.order(3), 3);
    }

    /** Twists and lateness do not change places, so that only the last order is right. */
    private static void lastOrder() {
        TwistedLight x = Due.told("x0 1 2 3 0 1 3 2 2 3 1 0;y3 2 1 0 2 1 0 1 2 3;"
                + "d1 2 5 1 3;d3 2 0 0 0;d1 3 1 4 2;d3 5 0 0 0;");
        x.stages(1, 2, 5, 1, 3);
        x.stages(2, 2, 0, 0, 0);
        x.stages(1, 3, 1, 4, 2);
        x.stages(2, 5, 0, 0, 0);
        Due.is("order(-1) of the last order", x.order(-1), 0);
        for (int k = 0; k < 4; k++) {
            Due.is("order(" + k + ") of the last order", x.order(k), 3 - k);
        }
        Due.is("orders() to the last order", x.orders(), 0);
        Due.is("orders() again", x.orders(), Due.STATE);
    }

    private static void orderIfAllIsWrong() {
        TwistedLight x = Due.told("d2 0 2 0 0;");
        x.stages(2, 3, 0, 0, 0);
        x.stages(2, 4, 0, 0, 0);
        Due.is("order(-1) if all is wrong", x.order(-1), 32);
        Due.is("order(0) if all is wrong", x.order(0), 0);
        Due.is("order(1) if all is wrong", x.order(1), 1);
        Due.is("orders() if all is wrong", x.orders(), Due.STATE);
    }

    private static void lag() {
        TwistedLight x = Due.told("m0 5 15;");
        int[] lags = {0, 4, 3, 2, 1, 0, 9, 8, 7, 6, 5, 4, 3, 2, 1, 0};
        for (int place = 0; place < 16; place++) {
            Due.is("lag(" + place + ")", x.lag(place), lags[place]);
        }
        TwistedLight around = Due.told("m2;");
        Due.is("lag(3) around", around.lag(3), 15);
        Due.is("lag(15) around", around.lag(15), 3);
        Due.is("lag(0)", around.lag(0), 2);
        TwistedLight unmarked = Due.told("m;");
        for (int place = 0; place < 16; place++) {
            Due.is("lag(" + place + ") without marks", unmarked.lag(place), 16);
        }
        for (int place : Due.outside(0, 15)) {
            Due.is("lag(" + place + ")", x.lag(place), Due.BAD);
            Due.is("lag(" + place + ") without marks", unmarked.lag(place), Due.BAD);
        }
    }
}

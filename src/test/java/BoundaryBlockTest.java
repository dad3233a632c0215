/** The boundary cases that the sections "Numbers and blocks", "Sending" and "Receiving" name, a test for each. */
public final class BoundaryBlockTest {
    // Of the numbers from 1 to 96 these and no others are 1 to the power of 16.
    private static final boolean[] NO_SPREAD = new boolean[97];

    public static void main(String[] args) {
        findNoSpreads();
        sumsAreModulo97();
        productsAreModulo97();
        differencesAreModulo97();
        lightOfSymbols();
        turnedByQ();
        nearestLight();
        ofSeveralTheSmallestSymbol();
        atFirst();
        lineOfSix();
        spreadNumbers();
        spreadComesFromTheLastPlace();
        spreadAtTheSameTime();
        twistNumbers();
        slipNumbers();
        slipReachesPlace15();
        lateNumbers();
        lateIsCyclic();
        hitNumbers();
        hitOfOneNumber();
        unusedNumbersOfDeeds();
        chainOfFour();
        stageNumbers();
        unusedNumbersOfStages();
        unspreadIsTheInverse();
        untwistIsTheInverse();
        earlyIsTheInverse();
        blindOfSeveralTheSmallest();
        blindCounts();
        mendedOfSeveralTheSmallest();
        mendedWithoutARightOne();
        mendedIsCyclic();
        mendedAtEveryPlace();
        mendedWithoutMarks();
        errorsOf32Places();
        Due.end();
    }

    private static void findNoSpreads() {
        for (int a = 1; a <= 96; a++) {
            long power = 1;
            for (int k = 0; k < 16; k++) {
                power = power * a % 97;
            }
            NO_SPREAD[a] = power == 1;
        }
    }

    /** An object that receives a number at (0, 0) and 1 elsewhere. */
    private static TwistedLight receiving(int number) {
        TwistedLight x = new TwistedLight();
        if (number != 1) {
            Due.is("adds a hit", x.adds(4, 0, 0, Math.floorMod(number - 1, 97), 0), 1);
        }
        Due.is("at(0, 0, 2)", x.at(0, 0, 2), number);
        return x;
    }

    // ---- Numbers and blocks

    private static void sumsAreModulo97() {
        Due.by("sums, differences and products of them are taken modulo 97");
        TwistedLight x = new TwistedLight();
        x.sends(0, 0, 2);
        x.adds(4, 0, 0, 1, 0);
        Due.is("96 + 1", x.at(0, 0, 1), 0);
        x.adds(4, 0, 0, 96, 0);
        Due.is("0 + 96", x.at(0, 0, 1), 96);
        x.adds(4, 0, 0, 96, 0);
        Due.is("96 + 96", x.at(0, 0, 1), 95);
        x.adds(1, 96, 96, 1, 96);
        Due.is("96 * 95 + 96 * 1", x.at(0, 0, 1), 1);
        Due.is("95 + 96", x.at(1, 0, 1), 94);
    }

    private static void productsAreModulo97() {
        Due.by("sums, differences and products of them are taken modulo 97");
        TwistedLight x = Due.told("x2 2;y2 2;d1 96 96 95 96;");
        Due.is("96 * 96 + 96 * 96", x.at(0, 0, 1), 2);
        Due.is("95 * 96 + 96 * 96", x.at(1, 0, 1), 3);
        TwistedLight y = Due.told("x2 2 2 2 2 2 2 2 2 2 2 2 2 2 2 2;d0 95 0 0 0;");
        Due.is("96 + 95 * 96", y.at(0, 0, 1), 1);
    }

    private static void differencesAreModulo97() {
        Due.by("sums, differences and products of them are taken modulo 97");
        TwistedLight x = new TwistedLight();
        x.stages(1, 96, 95, 96, 96);
        // The determinant is 96 * 96 - 95 * 96 = 96; the inverse is 1, 96, 95 and 1 times ... by 96: 1 2 1 1.
        for (int row = 0; row < 2; row++) {
            for (int place = 0; place < 16; place++) {
                int number = x.at(row, place, 2);
                Due.is("a number is 0 to 96", number >= 0 && number <= 96 ? 1 : 0, 1);
            }
        }
        int u = x.at(0, 3, 2);
        int v = x.at(1, 3, 2);
        Due.is("96 * u + 95 * v", (96 * u + 95 * v) % 97, 1);
        Due.is("96 * u + 96 * v", (96 * u + 96 * v) % 97, 1);
    }

    private static void lightOfSymbols() {
        Due.by("The light of the symbols is 1, 22, 96, 75");
        int[] lights = {1, 22, 96, 75};
        TwistedLight x = Due.told("x0 1 2 3;y3 2 1 0;");
        for (int symbol = 0; symbol < 4; symbol++) {
            Due.is("light of " + symbol + " in row 0", x.at(0, symbol, 1), lights[symbol]);
            Due.is("light of " + symbol + " in row 1", x.at(1, 3 - symbol, 1), lights[symbol]);
            Due.is(symbol + " is decided", x.at(0, symbol, 3), symbol);
        }
    }

    private static void turnedByQ() {
        Due.by("A number turned by q (0 to 3) is the light of q times the number");
        int[][] turned = {{1, 22, 96, 75}, {22, 96, 75, 1}, {96, 75, 1, 22}, {75, 1, 22, 96}};
        for (int q = 1; q <= 3; q++) {
            TwistedLight x = Due.told("x0 1 2 3;d2 0 " + q + " 0 0;");
            for (int symbol = 0; symbol < 4; symbol++) {
                Due.is("symbol " + symbol + " turned by " + q, x.at(0, symbol, 1), turned[q][symbol]);
            }
            x.adds(4, 1, 15, 97 - turned[q][0], 0);
            Due.is("to 0", x.at(1, 15, 1), 0);
            x.adds(2, 15, q, 0, 0);
            Due.is("0 turned by " + q, x.at(1, 15, 1), 0);
        }
    }

    private static void nearestLight() {
        Due.by("A number v is decided as the symbol whose light l is nearest");
        int[] numbers = {0, 1, 2, 11, 12, 21, 22, 23, 48, 49, 74, 75, 76, 85, 86, 95, 96};
        int[] symbols = {0, 0, 0, 0, 1, 1, 1, 1, 1, 3, 3, 3, 3, 3, 2, 2, 2};
        for (int k = 0; k < numbers.length; k++) {
            Due.is(numbers[k] + " is decided", receiving(numbers[k]).at(0, 0, 3), symbols[k]);
        }
    }

    private static void ofSeveralTheSmallestSymbol() {
        Due.by("of several the smallest symbol");
        // 0 is 1 away from 1 (symbol 0) and from 96 (symbol 2).
        TwistedLight x = receiving(0);
        Due.is("0 is decided", x.at(0, 0, 3), 0);
        Due.is("no error of 0", x.count(3), 0);
        x.sends(0, 0, 2);
        x.cuts();
        x.adds(4, 0, 0, 1, 0);
        Due.is("0 again", x.at(0, 0, 2), 0);
        Due.is("0 for a sent 2", x.at(0, 0, 3), 0);
        Due.is("an error", x.count(3), 1);
    }

    // ---- Sending

    private static void atFirst() {
        Due.by("(at first 0), (at first 0, 4, 8 and 12), (at first empty)");
        TwistedLight x = new TwistedLight();
        for (int place = 0; place < 16; place++) {
            Due.is("sent at " + place, x.at(0, place, 0) + x.at(1, place, 0), 0);
            Due.is("marked at " + place, x.lag(place) == 0 ? 1 : 0, place % 4 == 0 ? 1 : 0);
        }
        Due.is("deeds", x.count(0), 0);
        Due.is("stages", x.count(1), 0);
        Due.is("heard", x.count(4), 0);
        Due.is("loss()", x.loss(), 0);
    }

    private static void lineOfSix() {
        Due.by("The line is a list of at most 6 deeds, numbered from 0");
        TwistedLight x = new TwistedLight();
        for (int n = 1; n <= 6; n++) {
            Due.is("the " + n + "th", x.adds(4, 0, n, n, 0), n);
            Due.is("its number", x.deed(n - 1, 3), n);
            Due.is("it is done", x.at(0, n, 1), 1 + n);
        }
        Due.is("the 7th", x.adds(4, 0, 7, 7, 0), Due.FULL);
        Due.is("it is not done", x.at(0, 7, 1), 1);
        Due.is("deeds", x.count(0), 6);
        Due.is("deed(6, 0)", x.deed(6, 0), Due.BAD);
    }

    private static void spreadNumbers() {
        Due.by("spread by A (1 to 96, where A to the power of 16 is not 1)");
        TwistedLight x = new TwistedLight();
        for (int a : new int[] {-1, 0, 97, 98, 99, 97 + 2, Integer.MIN_VALUE, Integer.MAX_VALUE}) {
            Due.is("adds(0, " + a + ", 0, 0, 0)", x.adds(0, a, 0, 0, 0), Due.BAD);
            Due.is("stages(0, " + a + ", 0, 0, 0)", x.stages(0, a, 0, 0, 0), Due.BAD);
        }
        int possible = 0;
        for (int a = 1; a <= 96; a++) {
            TwistedLight y = new TwistedLight();
            int due = NO_SPREAD[a] ? Due.BAD : 1;
            Due.is("adds(0, " + a + ", 0, 0, 0)", y.adds(0, a, 0, 0, 0), due);
            Due.is("stages(0, " + a + ", 0, 0, 0)", y.stages(0, a, 0, 0, 0), due);
            possible += due == 1 ? 1 : 0;
        }
        Due.is("possible ones", possible, 80);
    }

    private static void spreadComesFromTheLastPlace() {
        Due.by("the place before place 0 is place 15");
        TwistedLight x = Due.told("x0 0 0 0 0 0 0 0 0 0 0 0 0 0 0 1;y0 0 0 0 0 0 0 0 0 0 0 0 0 0 0 3;d0 2 0 0 0;");
        Due.is("row 0: 1 + 2 * 22", x.at(0, 0, 1), 45);
        Due.is("row 1: 1 + 2 * 75", x.at(1, 0, 1), 54);
        Due.is("row 0 at 15: 22 + 2", x.at(0, 15, 1), 24);
        Due.is("row 1 at 15: 75 + 2", x.at(1, 15, 1), 77);
        Due.is("row 1 at 1", x.at(1, 1, 1), 3);
    }

    private static void spreadAtTheSameTime() {
        Due.by("each number becomes itself plus A times the number at the place before it (all at the same time)");
        TwistedLight x = Due.told("x1;y0 1;d0 2 0 0 0;");
        Due.is("22 + 2 * 1", x.at(0, 0, 1), 24);
        Due.is("1 + 2 * 22, not 1 + 2 * 24", x.at(0, 1, 1), 45);
        Due.is("1 + 2 * 1, not 1 + 2 * 45", x.at(0, 2, 1), 3);
        Due.is("1 + 2 * 1 at 15", x.at(0, 15, 1), 3);
        Due.is("row 1: 1 + 2 * 22", x.at(1, 2, 1), 45);
    }

    private static void twistNumbers() {
        Due.by("twist by A, B, C, D (0 to 96 each, where A * D - B * C is not 0)");
        int[][] possible = {{1, 0, 0, 1}, {0, 1, 1, 0}, {96, 0, 0, 96}, {0, 96, 96, 0}, {96, 96, 96, 0},
            {0, 96, 96, 96}, {96, 95, 96, 96}, {96, 96, 0, 96}, {96, 0, 96, 96}};
        // 10 * 10 - 1 * 3 is 97, 1 * 0 - 1 * 97 is no number of the field.
        int[][] impossible = {{0, 0, 0, 0}, {0, 0, 1, 1}, {1, 1, 0, 0}, {0, 1, 0, 1}, {1, 0, 1, 0}, {10, 1, 3, 10},
            {96, 96, 96, 96}, {96, 1, 1, 96}, {97, 1, 1, 1}, {1, 97, 1, 1}, {1, 1, 97, 1}, {1, 1, 1, 97},
            {-1, 1, 1, 1}, {1, -1, 1, 1}, {1, 1, -1, 1}, {1, 1, 1, -1}};
        for (int[] n : possible) {
            TwistedLight x = new TwistedLight();
            Due.is("adds(1, " + listed(n) + ")", x.adds(1, n[0], n[1], n[2], n[3]), 1);
            Due.is("stages(1, " + listed(n) + ")", x.stages(1, n[0], n[1], n[2], n[3]), 1);
            Due.is("1 comes back", x.at(0, 0, 2) * 100 + x.at(1, 15, 2), 101);
        }
        for (int[] n : impossible) {
            TwistedLight x = new TwistedLight();
            Due.is("adds(1, " + listed(n) + ")", x.adds(1, n[0], n[1], n[2], n[3]), Due.BAD);
            Due.is("stages(1, " + listed(n) + ")", x.stages(1, n[0], n[1], n[2], n[3]), Due.BAD);
        }
    }

    private static String listed(int[] numbers) {
        StringBuilder all = new StringBuilder();
        for (int n : numbers) {
            all.append(all.length() == 0 ? "" : ", ").append(n);
        }
        return all.toString();
    }

    /** Each number of a step just inside and just outside of its range, the others as they are usual. */
    private static void ranges(boolean deeds, int[] usual, int index, int least, int most) {
        for (int number : new int[] {least - 1, least, most, most + 1, Integer.MIN_VALUE, Integer.MAX_VALUE}) {
            TwistedLight x = new TwistedLight();
            int[] s = usual.clone();
            s[index] = number;
            int due = number >= least && number <= most ? 1 : Due.BAD;
            int got = deeds ? x.adds(s[0], s[1], s[2], s[3], s[4]) : x.stages(s[0], s[1], s[2], s[3], s[4]);
            Due.is((deeds ? "adds(" : "stages(") + listed(s) + ")", got, due);
            Due.is("how many there are then", x.count(deeds ? 0 : 1), due == 1 ? 1 : 0);
        }
    }

    private static void slipNumbers() {
        Due.by("slip from A (0 to 15) by B (1 to 3)");
        ranges(true, new int[] {2, 5, 1, 0, 0}, 1, 0, 15);
        ranges(true, new int[] {2, 5, 1, 0, 0}, 2, 1, 3);
    }

    private static void slipReachesPlace15() {
        Due.by("the numbers at the places A to 15 of both rows are turned by B");
        for (int from = 0; from < 16; from++) {
            TwistedLight x = new TwistedLight();
            x.adds(2, from, 1, 0, 0);
            for (int place = 0; place < 16; place++) {
                Due.is("row 0 at " + place + " from " + from, x.at(0, place, 1), place < from ? 1 : 22);
                Due.is("row 1 at " + place + " from " + from, x.at(1, place, 1), place < from ? 1 : 22);
            }
        }
    }

    private static void lateNumbers() {
        Due.by("late by A (1 to 15)");
        ranges(true, new int[] {3, 5, 0, 0, 0}, 1, 1, 15);
    }

    private static void lateIsCyclic() {
        Due.by("each number of row 1 moves on by A places (cyclically)");
        for (int by = 1; by < 16; by++) {
            TwistedLight x = Due.told("x1;y0 0 0 0 0 0 0 0 0 0 0 0 0 0 0 1;d3 " + by + " 0 0 0;");
            for (int place = 0; place < 16; place++) {
                Due.is("row 1 at " + place + ", late by " + by, x.at(1, place, 1), place == by - 1 ? 22 : 1);
                Due.is("row 0 at " + place + ", late by " + by, x.at(0, place, 1), place == 0 ? 22 : 1);
            }
        }
    }

    private static void hitNumbers() {
        Due.by("hit of row A (0 or 1) at place B (0 to 15) by C (1 to 96)");
        ranges(true, new int[] {4, 1, 5, 7, 0}, 1, 0, 1);
        ranges(true, new int[] {4, 1, 5, 7, 0}, 2, 0, 15);
        ranges(true, new int[] {4, 1, 5, 7, 0}, 3, 1, 96);
    }

    private static void hitOfOneNumber() {
        Due.by("C is added to the number there");
        int[][] corners = {{0, 0}, {0, 15}, {1, 0}, {1, 15}};
        for (int[] corner : corners) {
            TwistedLight x = Due.told("d4 " + corner[0] + " " + corner[1] + " 96 0;");
            for (int row = 0; row < 2; row++) {
                for (int place = 0; place < 16; place++) {
                    boolean hit = row == corner[0] && place == corner[1];
                    Due.is("row " + row + " at " + place, x.at(row, place, 1), hit ? 0 : 1);
                }
            }
        }
    }

    private static void unusedNumbersOfDeeds() {
        Due.by("The numbers that a kind does not use must be 0");
        int[][] usual = {{0, 2, 0, 0, 0}, {2, 5, 1, 0, 0}, {3, 5, 0, 0, 0}, {4, 1, 5, 7, 0}};
        int[] used = {1, 2, 1, 3};
        for (int k = 0; k < usual.length; k++) {
            for (int index = used[k] + 1; index <= 4; index++) {
                ranges(true, usual[k], index, 0, 0);
            }
        }
    }

    // ---- Receiving

    private static void chainOfFour() {
        Due.by("The chain is a list of at most 4 stages, numbered from 0");
        TwistedLight x = new TwistedLight();
        x.sends(1, 15, 1);
        for (int n = 1; n <= 4; n++) {
            Due.is("the " + n + "th", x.stages(2, n, 0, 0, 0), n);
            Due.is("its number", x.stage(n - 1, 1), n);
            Due.is("it is passed", x.at(1, 15 - n * (n + 1) / 2, 2), 22);
        }
        Due.is("the 5th", x.stages(2, 5, 0, 0, 0), Due.FULL);
        Due.is("it is not passed", x.at(1, 5, 2), 22);
        Due.is("stages", x.count(1), 4);
        Due.is("stage(4, 0)", x.stage(4, 0), Due.BAD);
    }

    private static void stageNumbers() {
        Due.by("early by A (1 to 15)");
        ranges(false, new int[] {2, 5, 0, 0, 0}, 1, 1, 15);
        Due.by("A stage has a kind (0 to 4)");
        for (int kind : Due.outside(0, 4)) {
            Due.is("stages of kind " + kind, new TwistedLight().stages(kind, 1, 0, 0, 0), Due.BAD);
            Due.is("adds of kind " + kind, new TwistedLight().adds(kind, 1, 0, 0, 0), Due.BAD);
        }
    }

    private static void unusedNumbersOfStages() {
        Due.by("The numbers that a kind does not use must be 0");
        int[][] usual = {{0, 2, 0, 0, 0}, {2, 5, 0, 0, 0}, {3, 0, 0, 0, 0}, {4, 0, 0, 0, 0}};
        int[] used = {1, 1, 0, 0};
        for (int k = 0; k < usual.length; k++) {
            for (int index = used[k] + 1; index <= 4; index++) {
                ranges(false, usual[k], index, 0, 0);
            }
        }
    }

    private static void comesBack(String what, TwistedLight x) {
        for (int row = 0; row < 2; row++) {
            for (int place = 0; place < 16; place++) {
                Due.is(what + ", row " + row + " at " + place, x.at(row, place, 2), Due.LIGHT[x.at(row, place, 0)]);
            }
        }
    }

    private static void unspreadIsTheInverse() {
        Due.by("the inverse of this deed (the block from which the deed makes the present one)");
        for (int a = 1; a <= 96; a++) {
            if (!NO_SPREAD[a]) {
                TwistedLight x = Due.told("x1 0 0 2 3 1 1 0 2 0 0 3 0 1 2 3;y2;d0 " + a + " 0 0 0;");
                x.stages(0, a, 0, 0, 0);
                comesBack("unspread by " + a, x);
            }
        }
    }

    private static void untwistIsTheInverse() {
        Due.by("the inverse of this deed (the block from which the deed makes the present one)");
        int[][] twists = {{1, 0, 0, 1}, {0, 1, 1, 0}, {0, 96, 96, 0}, {96, 95, 96, 96}, {96, 96, 95, 96},
            {2, 0, 0, 3}, {5, 1, 0, 5}, {5, 0, 1, 5}, {50, 60, 70, 80}};
        for (int[] t : twists) {
            TwistedLight x = Due.told("x1 0 0 2 3 1;y2 3 1 1 0 2;");
            x.adds(1, t[0], t[1], t[2], t[3]);
            x.stages(1, t[0], t[1], t[2], t[3]);
            comesBack("untwist by " + listed(t), x);
        }
    }

    private static void earlyIsTheInverse() {
        Due.by("early by A (1 to 15): the inverse of late by A");
        for (int by = 1; by < 16; by++) {
            TwistedLight x = Due.told("x1;y1;");
            x.stages(2, by, 0, 0, 0);
            for (int place = 0; place < 16; place++) {
                Due.is("row 1 at " + place + ", early by " + by, x.at(1, place, 2), place == 16 - by ? 22 : 1);
                Due.is("row 0 at " + place + ", early by " + by, x.at(0, place, 2), place == 0 ? 22 : 1);
            }
        }
    }

    private static int leastFactor(int number) {
        for (int g = 1; g <= 96; g++) {
            int v = g * number % 97;
            if (v == 1 || v == 22 || v == 96 || v == 75) {
                return g;
            }
        }
        return 0;
    }

    private static void blindOfSeveralTheSmallest() {
        Due.by("g is that number from 1 to 96 by which most numbers become the light of some symbol; of several the "
                + "smallest one");
        for (int v = 1; v <= 96; v++) {
            TwistedLight x = new TwistedLight();
            x.adds(1, v, 0, 0, v);
            x.stages(3, 0, 0, 0, 0);
            Due.is("all numbers are " + v, x.at(0, 0, 2), leastFactor(v) * v % 97);
            Due.is("row 1 too", x.at(1, 15, 2), leastFactor(v) * v % 97);
        }
        for (int v = 2; v <= 96; v++) {
            TwistedLight x = new TwistedLight();
            x.adds(1, 2, 0, 0, v);
            x.stages(3, 0, 0, 0, 0);
            int g = Math.min(leastFactor(2), leastFactor(v));
            Due.is("half of them are " + v, x.at(1, 15, 2), g * v % 97);
            Due.is("half of them are 2, beside " + v, x.at(0, 0, 2), g * 2 % 97);
        }
    }

    private static void blindCounts() {
        Due.by("by which most numbers of the block become the light of some symbol");
        TwistedLight x = Due.told("d1 2 0 0 5;");
        x.stages(3, 0, 0, 0, 0);
        int two = leastFactor(2);
        int five = leastFactor(5);
        Due.is("a tie", x.at(0, 8, 2), 2 * Math.min(two, five) % 97);
        int[][] last = {{0, 15}, {1, 15}, {0, 0}, {1, 0}};
        for (int[] spot : last) {
            x.adds(4, spot[0], spot[1], 96, 0);
            int g = spot[0] == 0 ? five : two;
            Due.is("one less in row " + spot[0], x.at(0, 8, 2), 2 * g % 97);
            x.cuts();
        }
    }

    private static void mendedOfSeveralTheSmallest() {
        Due.by("the most (0 to 2) of the two numbers at m, turned by q, are decided as what is sent; of several the "
                + "smallest one");
        // Row 0 is right by one turn alone, row 1 by another one alone.
        for (int first = 0; first < 4; first++) {
            for (int second = 0; second < 4; second++) {
                TwistedLight x = Due.told("m0;");
                x.adds(1, Due.LIGHT[(4 - first) % 4], 0, 0, Due.LIGHT[(4 - second) % 4]);
                x.stages(4, 0, 0, 0, 0);
                int q = Math.min(first, second);
                Due.is("turns " + first + " and " + second, x.at(0, 9, 2), Due.LIGHT[(4 - first + q) % 4]);
                Due.is("in row 1", x.at(1, 9, 2), Due.LIGHT[(4 - second + q) % 4]);
            }
        }
        // 11 and 11 * 22 = 48: 11 is 0, 48 is 1, 86 is 2, 49 is 3; 0 is 0 by any turn.
        TwistedLight both = Due.told("x1;m0;d4 0 0 86 0;d4 1 0 96 0;");
        both.stages(4, 0, 0, 0, 0);
        Due.is("11 turned by 1 is right in row 0, 0 in row 1", both.at(0, 0, 2), 48);
        Due.is("both rows count", both.at(1, 0, 2), 0);
    }

    private static void mendedWithoutARightOne() {
        Due.by("the most (0 to 2) of the two numbers");
        // 30, 78, 67 and 19 are decided as 1, 3, 3 and 1: no turn makes them 0.
        TwistedLight x = Due.told("m0 5;d4 0 0 29 0;d4 1 0 29 0;d2 1 2 0 0;");
        x.stages(4, 0, 0, 0, 0);
        Due.is("none is right: turned by 0", x.at(0, 0, 2), 30);
        Due.is("behind it, too", x.at(0, 4, 2), 96);
        Due.is("the next mark mends", x.at(0, 5, 2), 1);
        TwistedLight one = Due.told("m0;d4 0 0 29 0;d2 1 2 0 0;d4 1 0 21 0;");
        one.stages(4, 0, 0, 0, 0);
        Due.is("one is right by 3 alone: 30 turned", one.at(0, 0, 2), 19);
        Due.is("22 turned", one.at(1, 0, 2), 1);
        Due.is("96 turned", one.at(1, 15, 2), 22);
    }

    private static void mendedIsCyclic() {
        Due.by("at m and at all places after it up to the next marked place (cyclically, without that one)");
        for (int mark = 0; mark < 16; mark++) {
            int next = (mark + 5) % 16;
            // 1 + 74 = 75 asks for a turn by 1 at the one mark; the other one asks for none.
            TwistedLight turned = Due.told("m" + mark + " " + next + ";");
            turned.adds(4, 0, mark, 74, 0);
            turned.adds(4, 1, mark, 74, 0);
            turned.stages(4, 0, 0, 0, 0);
            for (int place = 0; place < 16; place++) {
                boolean within = Math.floorMod(place - mark, 16) < 5;
                int due = place == mark ? 1 : within ? 22 : 1;
                Due.is("mark " + mark + " at " + place, turned.at(0, place, 2), due);
                Due.is("mark " + mark + " at " + place + " of row 1", turned.at(1, place, 2), due);
            }
        }
        for (int mark = 0; mark < 16; mark++) {
            TwistedLight x = Due.told("m" + mark + ";d2 0 3 0 0;");
            x.stages(4, 0, 0, 0, 0);
            comesBack("the mark " + mark + " alone", x);
        }
    }

    private static void mendedAtEveryPlace() {
        Due.by("up to the next marked place (cyclically, without that one)");
        TwistedLight x = Due.told("x0 1 2 3 0 1 2 3 0 1 2 3 0 1 2 3;y3 2 1 0;"
                + "m0 1 2 3 4 5 6 7 8 9 10 11 12 13 14 15;d2 3 1 0 0;d2 8 1 0 0;d2 15 1 0 0;");
        x.stages(4, 0, 0, 0, 0);
        comesBack("each place mends itself", x);
    }

    private static void mendedWithoutMarks() {
        Due.by("Without marked places nothing changes");
        TwistedLight x = Due.told("m;d2 0 1 0 0;d4 0 3 5 0;");
        x.stages(4, 0, 0, 0, 0);
        for (int place = 0; place < 16; place++) {
            Due.is("row 0 at " + place, x.at(0, place, 2), place == 3 ? 27 : 22);
            Due.is("row 1 at " + place, x.at(1, place, 2), 22);
        }
    }

    private static void errorsOf32Places() {
        Due.by("Errors are those of the 32 places of both rows");
        Due.is("none", new TwistedLight().count(3), 0);
        Due.is("all", Due.told("d2 0 2 0 0;").count(3), 32);
        int[][] corners = {{0, 0}, {0, 15}, {1, 0}, {1, 15}};
        for (int[] corner : corners) {
            TwistedLight x = Due.told("m;d4 " + corner[0] + " " + corner[1] + " 11 0;");
            Due.is("one at " + listed(corner), x.count(3), 1);
            x.sends(corner[0], corner[1], 1);
            Due.is("none, as 1 is sent there: 33", x.count(3), 0);
        }
    }
}

/** Promises 5 to 8: sends, marks, adds and cuts, with what the deeds do to the air. */
public final class SendingTest {
    public static void main(String[] args) {
        sends();
        marks();
        addsAndCuts();
        impossibleDeeds();
        spread();
        twist();
        slip();
        late();
        hit();
        deedsInTheirOrder();
        Due.end();
    }

    private static void sends() {
        TwistedLight x = new TwistedLight();
        Due.is("sends(0, 0, 3)", x.sends(0, 0, 3), 0);
        Due.is("sends(0, 0, 1)", x.sends(0, 0, 1), 3);
        Due.is("sends(0, 0, 1) again", x.sends(0, 0, 1), Due.STATE);
        Due.is("sends(0, 1, 0)", x.sends(0, 1, 0), Due.STATE);
        Due.is("sends(1, 15, 2)", x.sends(1, 15, 2), 0);
        Due.is("at(1, 15, 0)", x.at(1, 15, 0), 2);
        Due.is("at(0, 15, 0)", x.at(0, 15, 0), 0);
        Due.is("at(0, 0, 1)", x.at(0, 0, 1), 22);
        Due.is("at(1, 15, 1)", x.at(1, 15, 1), 96);
        Due.is("acts", x.count(7), 3);
        for (int row : Due.outside(0, 1)) {
            Due.is("sends of row " + row, x.sends(row, 0, 0), Due.BAD);
        }
        for (int place : Due.outside(0, 15)) {
            Due.is("sends at place " + place, x.sends(0, place, 0), Due.BAD);
        }
        for (int symbol : Due.outside(0, 3)) {
            Due.is("sends of symbol " + symbol, x.sends(0, 0, symbol), Due.BAD);
        }
        Due.is("acts behind wrong calls", x.count(7), 3);
        Due.is("undo()", x.undo(), 2);
        Due.is("at(1, 15, 0) undone", x.at(1, 15, 0), 0);
    }

    private static void marks() {
        TwistedLight x = new TwistedLight();
        Due.is("marks(15, 1)", x.marks(15, 1), 5);
        Due.is("marks(15, 1) again", x.marks(15, 1), Due.STATE);
        Due.is("marks(0, 0)", x.marks(0, 0), 4);
        Due.is("marks(0, 0) again", x.marks(0, 0), Due.STATE);
        Due.is("marks(0, 1)", x.marks(0, 1), 5);
        Due.is("marks(1, 0)", x.marks(1, 0), Due.STATE);
        Due.is("lag(13)", x.lag(13), 2);
        Due.is("acts", x.count(7), 3);
        for (int place : Due.outside(0, 15)) {
            Due.is("marks of " + place, x.marks(place, 1), Due.BAD);
            Due.is("marks not of " + place, x.marks(place, 0), Due.BAD);
        }
        for (int is : Due.outside(0, 1)) {
            Due.is("marks(0, " + is + ")", x.marks(0, is), Due.BAD);
        }
        Due.is("undo()", x.undo(), 2);
        Due.is("marked places", x.count(2), 4);
        Due.is("lag(0)", x.lag(0), 4);
        for (int place = 0; place < 16; place++) {
            x.marks(place, 1);
        }
        Due.is("all places marked", x.count(2), 16);
    }

    private static void addsAndCuts() {
        TwistedLight x = new TwistedLight();
        Due.is("cuts() without deeds", x.cuts(), Due.STATE);
        for (int n = 1; n <= 6; n++) {
            Due.is("adds the " + n + "th", x.adds(4, 1, n, n, 0), n);
        }
        Due.is("adds the 7th", x.adds(3, 1, 0, 0, 0), Due.FULL);
        Due.is("adds an impossible 7th", x.adds(3, 0, 0, 0, 0), Due.BAD);
        Due.is("adds of kind 5 as a 7th", x.adds(5, 1, 0, 0, 0), Due.BAD);
        Due.is("deed(5, 2)", x.deed(5, 2), 6);
        for (int left = 5; left >= 0; left--) {
            Due.is("cuts() to " + left, x.cuts(), left);
            Due.is("deed(" + left + ", 0)", x.deed(left, 0), Due.BAD);
            Due.is("deeds", x.count(0), left);
        }
        Due.is("cuts() again", x.cuts(), Due.STATE);
        Due.is("acts", x.count(7), 6);
        Due.is("undo() of a cut", x.undo(), 5);
        Due.is("deeds", x.count(0), 1);
        Due.is("deed(0, 3)", x.deed(0, 3), 1);
        Due.is("adds a spread", x.adds(0, 2, 0, 0, 0), 2);
        Due.is("the air changed", x.at(0, 3, 1), 3);
        Due.is("cuts() of the spread", x.cuts(), 1);
        Due.is("the air is as before", x.at(0, 3, 1), 1);
    }

    private static void impossibleDeeds() {
        TwistedLight x = new TwistedLight();
        int[][] wrong = {
            {-1, 0, 0, 0, 0}, {5, 0, 0, 0, 0}, {Integer.MIN_VALUE, 1, 0, 0, 0}, {Integer.MAX_VALUE, 1, 0, 0, 0},
            {0, 0, 0, 0, 0}, {0, 97, 0, 0, 0}, {0, -1, 0, 0, 0}, {0, Integer.MIN_VALUE, 0, 0, 0},
            {0, 2, 1, 0, 0}, {0, 2, 0, 1, 0}, {0, 2, 0, 0, 1}, {0, 2, 0, 0, -1},
            {1, 0, 0, 0, 0}, {1, 1, 1, 1, 1}, {1, 97, 0, 0, 1}, {1, -1, 0, 0, 1}, {1, 1, 97, 0, 1},
            {1, 1, -1, 0, 1}, {1, 1, 0, 97, 1}, {1, 1, 0, -1, 1}, {1, 1, 0, 0, 97}, {1, 1, 0, 0, -1},
            {1, 97, 1, 1, 1}, {1, 1, 1, 1, 97}, {1, 1, 1, 97, 1}, {1, 1, 97, 1, 1},
            {1, 10, 1, 3, 10}, {1, Integer.MAX_VALUE, 1, 1, Integer.MAX_VALUE},
            {2, -1, 1, 0, 0}, {2, 16, 1, 0, 0}, {2, 0, 0, 0, 0}, {2, 0, 4, 0, 0}, {2, 0, 1, 1, 0}, {2, 0, 1, 0, 1},
            {3, 0, 0, 0, 0}, {3, 16, 0, 0, 0}, {3, -1, 0, 0, 0}, {3, 1, 1, 0, 0}, {3, 1, 0, 1, 0}, {3, 1, 0, 0, 1},
            {4, -1, 0, 1, 0}, {4, 2, 0, 1, 0}, {4, 0, -1, 1, 0}, {4, 0, 16, 1, 0}, {4, 0, 0, 0, 0},
            {4, 0, 0, 97, 0}, {4, 0, 0, -1, 0}, {4, 0, 0, 1, 1}};
        for (int[] d : wrong) {
            String call = "adds(" + d[0] + ", " + d[1] + ", " + d[2] + ", " + d[3] + ", " + d[4] + ")";
            Due.is(call, x.adds(d[0], d[1], d[2], d[3], d[4]), Due.BAD);
        }
        Due.is("deeds", x.count(0), 0);
        Due.is("acts", x.count(7), 0);
        Due.is("a twist by the largest numbers", x.adds(1, 96, 95, 96, 96), 1);
        Due.is("and the other way", x.adds(1, 96, 96, 95, 96), 2);
        x.cuts();
        x.cuts();
        for (int a = 1; a <= 96; a++) {
            long power = 1;
            for (int k = 0; k < 16; k++) {
                power = power * a % 97;
            }
            Due.is("adds(0, " + a + ", 0, 0, 0)", x.adds(0, a, 0, 0, 0), power == 1 ? Due.BAD : 1);
            x.cuts();
        }
    }

    private static void spread() {
        TwistedLight x = Due.told("x0 0 0 1 0 0 0 0 0 0 0 0 0 0 0 2;y3;d0 5 0 0 0;");
        Due.is("1 + 5 * 96", x.at(0, 0, 1), 93);
        Due.is("1 + 5 * 1", x.at(0, 1, 1), 6);
        Due.is("22 + 5 * 1", x.at(0, 3, 1), 27);
        Due.is("1 + 5 * 22", x.at(0, 4, 1), 14);
        Due.is("96 + 5 * 1", x.at(0, 15, 1), 4);
        Due.is("75 + 5 * 1", x.at(1, 0, 1), 80);
        Due.is("1 + 5 * 75", x.at(1, 1, 1), 85);
        Due.is("1 + 5 * 1", x.at(1, 15, 1), 6);
    }

    private static void twist() {
        TwistedLight x = Due.told("x3 1;y1 2;d1 1 2 3 5;");
        Due.is("75 + 2 * 22", x.at(0, 0, 1), 22);
        Due.is("3 * 75 + 5 * 22", x.at(1, 0, 1), 44);
        Due.is("22 + 2 * 96", x.at(0, 1, 1), 20);
        Due.is("3 * 22 + 5 * 96", x.at(1, 1, 1), 61);
        Due.is("1 + 2", x.at(0, 15, 1), 3);
        Due.is("3 + 5", x.at(1, 15, 1), 8);
        x.adds(1, 0, 96, 96, 0);
        Due.is("96 * 8", x.at(0, 15, 1), 89);
        Due.is("96 * 3", x.at(1, 15, 1), 94);
    }

    private static void slip() {
        TwistedLight x = Due.told("x0 1 2 3;y3 2 1;d2 1 1 0 0;");
        int[] row0 = {1, 96, 75, 1, 22};
        int[] row1 = {75, 75, 96, 22, 22};
        for (int place = 0; place < 5; place++) {
            Due.is("slip row 0 at " + place, x.at(0, place, 1), row0[place]);
            Due.is("slip row 1 at " + place, x.at(1, place, 1), row1[place]);
        }
        Due.is("slip to the end", x.at(1, 15, 1), 22);
        x.adds(2, 15, 3, 0, 0);
        Due.is("a slip from 15", x.at(0, 15, 1), 1);
        Due.is("not before", x.at(0, 14, 1), 22);
        x.adds(2, 0, 2, 0, 0);
        Due.is("a slip from 0", x.at(0, 0, 1), 96);
    }

    private static void late() {
        TwistedLight x = Due.told("x1;y1 2 0 0 0 0 0 0 0 0 0 0 0 0 3 0;d3 4 0 0 0;");
        int[] row1 = {1, 1, 75, 1, 22, 96, 1};
        for (int place = 0; place < row1.length; place++) {
            Due.is("late at " + place, x.at(1, place, 1), row1[place]);
        }
        Due.is("row 0 is not late", x.at(0, 0, 1), 22);
        Due.is("row 0 is not late at 4", x.at(0, 4, 1), 1);
        x.adds(3, 15, 0, 0, 0);
        Due.is("late by 19 in all", x.at(1, 3, 1), 22);
    }

    private static void hit() {
        TwistedLight x = Due.told("x1;d4 0 0 96 0;d4 1 15 50 0;d4 1 15 46 0;");
        Due.is("22 + 96", x.at(0, 0, 1), 21);
        Due.is("1 + 50 + 46", x.at(1, 15, 1), 0);
        Due.is("no other number of row 0", x.at(0, 15, 1), 1);
        Due.is("no other number of row 1", x.at(1, 0, 1), 1);
    }

    private static void deedsInTheirOrder() {
        TwistedLight first = Due.told("d4 0 3 5 0;d2 0 1 0 0;");
        Due.is("hit, then slip", first.at(0, 3, 1), 35);
        TwistedLight second = Due.told("d2 0 1 0 0;d4 0 3 5 0;");
        Due.is("slip, then hit", second.at(0, 3, 1), 27);
    }
}

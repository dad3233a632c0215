/** Promises 9 to 14: stages, drops, learns, orders, hears and undo. */
public final class ChainTest {
    public static void main(String[] args) {
        stages();
        impossibleStages();
        unspread();
        untwist();
        early();
        blind();
        mended();
        mendedWithoutMarks();
        drops();
        learns();
        learnsRefused();
        orders();
        hears();
        undo();
        undoRestoresAll();
        Due.end();
    }

    private static void stages() {
        TwistedLight x = new TwistedLight();
        Due.is("stages(3, ..)", x.stages(3, 0, 0, 0, 0), 1);
        Due.is("stages(2, ..)", x.stages(2, 15, 0, 0, 0), 2);
        Due.is("stages(1, ..)", x.stages(1, 0, 96, 1, 0), 3);
        Due.is("stages(0, ..)", x.stages(0, 95, 0, 0, 0), 4);
        Due.is("a fifth stage", x.stages(4, 0, 0, 0, 0), Due.FULL);
        Due.is("an impossible fifth stage", x.stages(4, 0, 0, 0, 1), Due.BAD);
        Due.is("a fifth stage of kind 5", x.stages(5, 0, 0, 0, 0), Due.BAD);
        Due.is("stages", x.count(1), 4);
        Due.is("acts", x.count(7), 4);
        Due.is("undo()", x.undo(), 3);
        Due.is("stages behind undo()", x.count(1), 3);
    }

    private static void impossibleStages() {
        TwistedLight x = new TwistedLight();
        int[][] wrong = {
            {-1, 0, 0, 0, 0}, {5, 0, 0, 0, 0}, {Integer.MIN_VALUE, 0, 0, 0, 0}, {Integer.MAX_VALUE, 0, 0, 0, 0},
            {0, 0, 0, 0, 0}, {0, 97, 0, 0, 0}, {0, 1, 0, 0, 0}, {0, 96, 0, 0, 0}, {0, 22, 0, 0, 0},
            {0, 2, 1, 0, 0}, {0, 2, 0, 1, 0}, {0, 2, 0, 0, 1},
            {1, 0, 0, 0, 0}, {1, 2, 4, 1, 2}, {1, 97, 0, 0, 1}, {1, 1, 97, 0, 1}, {1, 1, 0, 97, 1},
            {1, 97, 1, 1, 1}, {1, 1, 1, 1, 97}, {1, 1, 1, 97, 1}, {1, 1, 97, 1, 1},
            {1, 1, 0, 0, 97}, {1, -1, 0, 0, 1}, {1, 1, -1, 0, 1}, {1, 1, 0, -1, 1}, {1, 1, 0, 0, -1},
            {2, 0, 0, 0, 0}, {2, 16, 0, 0, 0}, {2, -1, 0, 0, 0}, {2, 1, 1, 0, 0}, {2, 1, 0, 1, 0}, {2, 1, 0, 0, 1},
            {3, 1, 0, 0, 0}, {3, 0, 1, 0, 0}, {3, 0, 0, 1, 0}, {3, 0, 0, 0, 1}, {3, -1, 0, 0, 0},
            {4, 1, 0, 0, 0}, {4, 0, 1, 0, 0}, {4, 0, 0, 1, 0}, {4, 0, 0, 0, 1}, {4, 0, 0, 0, -1}};
        for (int[] s : wrong) {
            String call = "stages(" + s[0] + ", " + s[1] + ", " + s[2] + ", " + s[3] + ", " + s[4] + ")";
            Due.is(call, x.stages(s[0], s[1], s[2], s[3], s[4]), Due.BAD);
        }
        Due.is("stages", x.count(1), 0);
        Due.is("acts", x.count(7), 0);
        Due.is("an untwist by the largest numbers", x.stages(1, 96, 95, 96, 96), 1);
        Due.is("and the other way", x.stages(1, 96, 96, 95, 96), 2);
    }

    private static void sameAsSent(String what, TwistedLight x) {
        for (int row = 0; row < 2; row++) {
            for (int place = 0; place < 16; place++) {
                int light = Due.LIGHT[x.at(row, place, 0)];
                Due.is(what + " at(" + row + ", " + place + ", 2)", x.at(row, place, 2), light);
            }
        }
    }

    private static void unspread() {
        for (int a : new int[] {2, 5, 13, 47 + 1, 95}) {
            TwistedLight x = Due.told("x0 1 2 3 3 1;y2 0 0 1 0 0 0 0 0 0 0 0 0 0 0 3;d0 " + a + " 0 0 0;");
            Due.is("stages(0, " + a + ")", x.stages(0, a, 0, 0, 0), 1);
            sameAsSent("unspread by " + a, x);
        }
    }

    private static void untwist() {
        TwistedLight x = Due.told("x0 1 2 3 3 1;y2 0 0 1 0 3;d1 10 96 7 31;");
        Due.is("stages(1, 10, 96, 7, 31)", x.stages(1, 10, 96, 7, 31), 1);
        sameAsSent("untwist", x);
        x.cuts();
        x.drops(0);
        x.stages(1, 2, 5, 1, 3);
        Due.is("3 * 1 - 5 * 96", x.at(0, 0, 2), 8);
        Due.is("2 * 96 - 1", x.at(1, 0, 2), 94);
    }

    private static void early() {
        for (int by = 1; by < 16; by++) {
            TwistedLight x = Due.told("x1 2;y3 1 2 0 0 0 0 0 1;d3 " + by + " 0 0 0;");
            x.stages(2, by, 0, 0, 0);
            sameAsSent("early by " + by, x);
        }
        TwistedLight x = Due.told("x0 0 0 0 0 1;y0 0 0 0 0 1;");
        x.stages(2, 7, 0, 0, 0);
        Due.is("early goes back", x.at(1, 14, 2), 22);
        Due.is("early leaves row 0", x.at(0, 5, 2), 22);
    }

    private static void blind() {
        TwistedLight x = Due.told("d1 5 0 0 5;");
        x.stages(3, 0, 0, 0, 0);
        // 5 * 15 = 75, 5 * 24 = 23: the factors of 5 are 39, 82, 58 and 15.
        Due.is("the smallest of four factors", x.at(0, 0, 2), 75);
        x.adds(4, 0, 0, 92, 0);
        Due.is("0 becomes no light", x.at(0, 0, 2), 0);
        Due.is("the others decide", x.at(0, 1, 2), 75);
        TwistedLight two = Due.told("d1 49 0 0 49;");
        two.stages(3, 0, 0, 0, 0);
        Due.is("49 by 2", two.at(1, 7, 2), 1);
        TwistedLight light = Due.told("x1 2 3;");
        light.stages(3, 0, 0, 0, 0);
        sameAsSent("blind by 1", light);
        // Of 32 numbers 16 are 2 (factor 37 makes 74, 49 makes 1) and 16 are 3.
        TwistedLight halves = Due.told("d1 2 0 0 3;");
        halves.stages(3, 0, 0, 0, 0);
        int first = smallestFactor(2);
        int second = smallestFactor(3);
        int factor = Math.min(first, second);
        Due.is("a tie of two kinds", halves.at(0, 9, 2), 2 * factor % 97);
        Due.is("a tie of two kinds, row 1", halves.at(1, 9, 2), 3 * factor % 97);
        halves.adds(4, 1, 3, 96, 0);
        Due.is("a majority of one", halves.at(0, 9, 2), 2 * first % 97);
        halves.adds(4, 0, 0, 1, 0);
        Due.is("even again", halves.at(0, 9, 2), 2 * factor % 97);
        halves.adds(4, 0, 1, 1, 0);
        Due.is("the other majority", halves.at(0, 9, 2), 2 * second % 97);
    }

    private static int smallestFactor(int number) {
        for (int g = 1; g <= 96; g++) {
            for (int light : Due.LIGHT) {
                if (g * number % 97 == light) {
                    return g;
                }
            }
        }
        return 0;
    }

    private static void mended() {
        TwistedLight x = Due.told("m3 10;d2 3 1 0 0;d2 10 1 0 0;");
        x.stages(4, 0, 0, 0, 0);
        for (int place = 0; place < 16; place++) {
            // From place 10 on everything is turned by 2, also the places before 3, which were right.
            Due.is("mended at " + place, x.at(0, place, 2), place < 3 ? 96 : 1);
            Due.is("mended row 1 at " + place, x.at(1, place, 2), place < 3 ? 96 : 1);
        }
        TwistedLight one = Due.told("m5;d2 5 3 0 0;");
        one.stages(4, 0, 0, 0, 0);
        Due.is("one mark: itself", one.at(0, 5, 2), 1);
        Due.is("one mark: behind", one.at(1, 15, 2), 1);
        Due.is("one mark: all around", one.at(0, 4, 2), 22);
        // Row 0 asks for no turn, row 1 for 3: one right number each, the smallest turn wins.
        TwistedLight tie = Due.told("m0;d1 1 0 0 22;");
        tie.stages(4, 0, 0, 0, 0);
        Due.is("a tie, row 0", tie.at(0, 0, 2), 1);
        Due.is("a tie, row 1", tie.at(1, 0, 2), 22);
        TwistedLight other = Due.told("m0;d1 22 0 0 1;");
        other.stages(4, 0, 0, 0, 0);
        Due.is("the other tie, row 0", other.at(0, 0, 2), 22);
        Due.is("the other tie, row 1", other.at(1, 0, 2), 1);
        TwistedLight symbols = Due.told("x0 0 0 1;y3 0 0 2 0 1;m3;d2 1 1 0 0;");
        symbols.stages(4, 0, 0, 0, 0);
        Due.is("what is sent at 3, row 0", symbols.at(0, 3, 2), 22);
        Due.is("what is sent at 3, row 1", symbols.at(1, 3, 2), 96);
        // Row 0 is 22 + 75 = 0, right by any turn; row 1 is right by 3 alone.
        TwistedLight both = Due.told("m0;d2 0 1 0 0;d4 0 0 75 0;");
        both.stages(4, 0, 0, 0, 0);
        Due.is("two right, row 0", both.at(0, 0, 2), 0);
        Due.is("two right, row 1", both.at(1, 0, 2), 1);
        Due.is("two right, behind", both.at(0, 15, 2), 1);
    }

    private static void mendedWithoutMarks() {
        TwistedLight x = Due.told("m;d2 3 1 0 0;");
        x.stages(4, 0, 0, 0, 0);
        Due.is("nothing changes", x.at(0, 3, 2), 22);
        Due.is("nothing changes before", x.at(0, 2, 2), 1);
        Due.is("errors", x.count(3), 26);
    }

    private static void drops() {
        TwistedLight x = new TwistedLight();
        Due.is("drops(0) without stages", x.drops(0), Due.BAD);
        x.stages(2, 1, 0, 0, 0);
        x.stages(2, 2, 0, 0, 0);
        x.stages(2, 3, 0, 0, 0);
        x.stages(2, 4, 0, 0, 0);
        for (int k : Due.outside(0, 3)) {
            Due.is("drops(" + k + ")", x.drops(k), Due.BAD);
        }
        Due.is("drops(1)", x.drops(1), 3);
        int[] left = {1, 3, 4};
        for (int k = 0; k < 3; k++) {
            Due.is("stage(" + k + ", 1)", x.stage(k, 1), left[k]);
        }
        Due.is("stage(3, 1)", x.stage(3, 1), Due.BAD);
        Due.is("drops(3)", x.drops(3), Due.BAD);
        Due.is("drops(2)", x.drops(2), 2);
        Due.is("drops(0)", x.drops(0), 1);
        Due.is("stage(0, 1)", x.stage(0, 1), 3);
        Due.is("undo()", x.undo(), 5);
        Due.is("stages", x.count(1), 2);
        Due.is("stage(0, 1) behind undo()", x.stage(0, 1), 1);
    }

    private static void learns() {
        TwistedLight x = Due.told("x0 2 1 3;y0 1 3;d1 7 3 2 9;");
        Due.is("learns(0, 1)", x.learns(0, 1), 1);
        sameAsSent("learnt", x);
        Due.is("kind", x.stage(0, 0), 1);
        int[] twist = {7, 3, 2, 9};
        for (int what = 1; what <= 4; what++) {
            Due.is("stage(0, " + what + ")", x.stage(0, what), twist[what - 1]);
        }
        Due.is("acts", x.count(7), 2);
        Due.is("undo()", x.undo(), 1);
        Due.is("stages", x.count(1), 0);
    }

    private static void learnsRefused() {
        TwistedLight x = new TwistedLight();
        Due.is("learns of equal lights", x.learns(0, 1), Due.STATE);
        Due.is("learns(3, 3)", x.learns(3, 3), Due.BAD);
        for (int place : Due.outside(0, 15)) {
            Due.is("learns(" + place + ", 0)", x.learns(place, 0), Due.BAD);
            Due.is("learns(0, " + place + ")", x.learns(0, place), Due.BAD);
        }
        for (int n = 0; n < 4; n++) {
            x.stages(2, 8, 0, 0, 0);
        }
        Due.is("learns without taps into a full chain", x.learns(0, 1), Due.STATE);
        Due.is("learns of one place with a full chain", x.learns(1, 1), Due.BAD);
        x.sends(1, 1, 1);
        Due.is("learns into a full chain", x.learns(0, 1), Due.FULL);
        Due.is("acts", x.count(7), 5);
        x.drops(3);
        x.drops(2);
        Due.is("learns into the room", x.learns(0, 1), 3);
    }

    private static void orders() {
        TwistedLight x = new TwistedLight();
        Due.is("orders() of no stages", x.orders(), Due.STATE);
        x.sends(1, 3, 1);
        x.adds(3, 2, 0, 0, 0);
        x.adds(1, 2, 5, 1, 3);
        x.stages(2, 2, 0, 0, 0);
        Due.is("orders() of one stage", x.orders(), Due.STATE);
        x.stages(1, 2, 5, 1, 3);
        Due.is("errors in the wrong order", x.count(3) > 0 ? 1 : 0, 1);
        Due.is("orders()", x.orders(), 0);
        Due.is("stage(0, 0)", x.stage(0, 0), 1);
        Due.is("stage(0, 4)", x.stage(0, 4), 3);
        Due.is("stage(1, 0)", x.stage(1, 0), 2);
        Due.is("stage(1, 1)", x.stage(1, 1), 2);
        Due.is("stage(1, 2)", x.stage(1, 2), 0);
        Due.is("no errors", x.count(3), 0);
        Due.is("orders() again", x.orders(), Due.STATE);
        Due.is("acts", x.count(7), 6);
        Due.is("undo()", x.undo(), 5);
        Due.is("stage(0, 0) behind undo()", x.stage(0, 0), 2);
    }

    private static void hears() {
        TwistedLight x = Due.told("d2 13 2 0 0;");
        Due.is("hears()", x.hears(), 6);
        Due.is("0.25 * 6", x.loss(), 150);
        Due.is("hears() again", x.hears(), 6);
        Due.is("0.75 * 1.5 + 1.5", x.loss(), 262);
        Due.is("heard", x.count(4), 2);
        x.cuts();
        Due.is("hears() without errors", x.hears(), 0);
        Due.is("0.75 * 2.625", x.loss(), 196);
        Due.is("heard", x.count(4), 3);
        Due.is("acts", x.count(7), 5);
        Due.is("undo()", x.undo(), 4);
        Due.is("loss behind undo()", x.loss(), 262);
        Due.is("heard behind undo()", x.count(4), 2);
    }

    private static void undo() {
        TwistedLight x = new TwistedLight();
        Due.is("undo() of nothing", x.undo(), Due.STATE);
        for (int n = 1; n <= 8; n++) {
            x.sends(0, n, 1);
            Due.is("acts behind " + n, x.count(7), Math.min(n, 6));
        }
        for (int left = 5; left >= 3; left--) {
            Due.is("undo() to " + left, x.undo(), left);
            Due.is("undone at " + (left + 3), x.at(0, left + 3, 0), 0);
            Due.is("not yet undone", x.at(0, left + 2, 0), 1);
        }
        x.sends(1, 0, 2);
        Due.is("acts behind another one", x.count(7), 4);
        for (int left = 3; left >= 0; left--) {
            Due.is("undo() to " + left, x.undo(), left);
        }
        Due.is("undo() beyond", x.undo(), Due.STATE);
        Due.is("the first act stands", x.at(0, 1, 0), 1);
        Due.is("the second act stands", x.at(0, 2, 0), 1);
        Due.is("the third act does not", x.at(0, 3, 0), 0);
    }

    /** Calls that are no acts are not undone, and each act is. */
    private static void undoRestoresAll() {
        TwistedLight x = new TwistedLight();
        x.adds(1, 1, 2, 3, 5);
        x.type('x');
        x.sees(0, 0, 0);
        x.keep(0);
        x.forget();
        x.sees(0, 0, 1);
        x.clear();
        x.order(-1);
        x.wrong(0);
        x.fits(0);
        Due.is("one act", x.count(7), 1);
        Due.is("undo()", x.undo(), 0);
        Due.is("deeds", x.count(0), 0);
        Due.is("observations stay", x.count(5), 1);
        Due.is("undo() again", x.undo(), Due.STATE);
        Due.is("the image stays", x.back(0), 0);
        Due.is("deeds of the image", x.count(0), 1);
    }
}

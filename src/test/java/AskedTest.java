/** Promises 15 to 19 and 31: at, deed, stage, wrong, loss and count. */
public final class AskedTest {
    public static void main(String[] args) {
        at();
        decisions();
        deed();
        stage();
        wrong();
        loss();
        count();
        Due.end();
    }

    private static void at() {
        TwistedLight x = Due.told("x0 3;y2;d4 0 1 10 0;d4 1 0 1 0;");
        x.stages(2, 1, 0, 0, 0);
        Due.is("at(0, 1, 0)", x.at(0, 1, 0), 3);
        Due.is("at(0, 1, 1)", x.at(0, 1, 1), 85);
        Due.is("at(0, 1, 2)", x.at(0, 1, 2), 85);
        Due.is("at(0, 1, 3)", x.at(0, 1, 3), 3);
        Due.is("at(1, 0, 0)", x.at(1, 0, 0), 2);
        Due.is("at(1, 0, 1)", x.at(1, 0, 1), 0);
        Due.is("at(1, 0, 2)", x.at(1, 0, 2), 1);
        Due.is("at(1, 15, 1)", x.at(1, 15, 1), 1);
        Due.is("at(1, 15, 2)", x.at(1, 15, 2), 0);
        Due.is("at(1, 15, 3)", x.at(1, 15, 3), 0);
        int acts = x.count(7);
        for (int row : Due.outside(0, 1)) {
            Due.is("at of row " + row, x.at(row, 0, 0), Due.BAD);
        }
        for (int place : Due.outside(0, 15)) {
            Due.is("at of place " + place, x.at(0, place, 2), Due.BAD);
        }
        for (int what : Due.outside(0, 3)) {
            Due.is("at of what " + what, x.at(0, 0, what), Due.BAD);
        }
        Due.is("at is no act", x.count(7), acts);
    }

    /** Every number of the field is decided as the symbol of the nearest light. */
    private static void decisions() {
        TwistedLight x = new TwistedLight();
        Due.is("1 is decided", x.at(1, 2, 3), 0);
        for (int c = 1; c <= 96; c++) {
            int number = (1 + c) % 97;
            x.adds(4, 1, 2, c, 0);
            Due.is("the number by " + c, x.at(1, 2, 2), number);
            Due.is(number + " is decided", x.at(1, 2, 3), Due.decided(number));
            Due.is("errors of " + number, x.count(3), Due.decided(number) == 0 ? 0 : 1);
            x.cuts();
        }
    }

    private static void deed() {
        TwistedLight x = Due.told("d4 1 15 96 0;d1 2 3 4 5;");
        int[][] deeds = {{4, 1, 15, 96, 0}, {1, 2, 3, 4, 5}};
        for (int k = 0; k < 2; k++) {
            for (int what = 0; what < 5; what++) {
                Due.is("deed(" + k + ", " + what + ")", x.deed(k, what), deeds[k][what]);
            }
            for (int what : Due.outside(0, 4)) {
                Due.is("deed(" + k + ", " + what + ")", x.deed(k, what), Due.BAD);
            }
        }
        for (int k : Due.outside(0, 1)) {
            Due.is("deed(" + k + ", 0)", x.deed(k, 0), Due.BAD);
        }
    }

    private static void stage() {
        TwistedLight x = new TwistedLight();
        x.stages(0, 7, 0, 0, 0);
        x.stages(1, 2, 3, 4, 5);
        x.stages(4, 0, 0, 0, 0);
        int[][] stages = {{0, 7, 0, 0, 0}, {1, 2, 3, 4, 5}, {4, 0, 0, 0, 0}};
        for (int k = 0; k < 3; k++) {
            for (int what = 0; what < 5; what++) {
                Due.is("stage(" + k + ", " + what + ")", x.stage(k, what), stages[k][what]);
            }
            for (int what : Due.outside(0, 4)) {
                Due.is("stage(" + k + ", " + what + ")", x.stage(k, what), Due.BAD);
            }
        }
        for (int k : Due.outside(0, 2)) {
            Due.is("stage(" + k + ", 0)", x.stage(k, 0), Due.BAD);
        }
    }

    private static void wrong() {
        TwistedLight x = Due.told("d2 0 2 0 0;d3 4 0 0 0;");
        x.sends(1, 0, 1);
        Due.is("wrong(0)", x.wrong(0), 32);
        x.stages(2, 4, 0, 0, 0);
        x.stages(1, 96, 0, 0, 96);
        Due.is("wrong(0) with stages", x.wrong(0), 32);
        Due.is("wrong(1)", x.wrong(1), 32);
        Due.is("wrong(2)", x.wrong(2), 0);
        x.cuts();
        Due.is("early too much", x.wrong(2), 2);
        for (int n : Due.outside(0, 2)) {
            Due.is("wrong(" + n + ")", x.wrong(n), Due.BAD);
        }
    }

    private static void loss() {
        TwistedLight x = Due.told("d2 0 2 0 0;");
        float loss = 0f;
        for (int n = 0; n < 60; n++) {
            int errors = x.hears();
            loss = 0.75f * loss + 0.25f * errors;
            Due.is("hears()", errors, n < 40 ? 32 : 0);
            Due.is("loss() behind " + (n + 1), x.loss(), (int) (100f * loss));
            if (n == 39) {
                Due.is("the loss comes close to 32", x.loss(), 3199);
                x.cuts();
            }
        }
        Due.is("the loss comes down", x.loss(), 10);
        TwistedLight one = Due.told("d4 0 0 50 0;");
        int[] hundredths = {25, 43, 57, 68, 76, 82};
        for (int n = 0; n < hundredths.length; n++) {
            one.hears();
            Due.is("loss of one error, " + n, one.loss(), hundredths[n]);
        }
    }

    private static void count() {
        TwistedLight x = Due.told("m1 2 3;d2 0 1 0 0;d3 1 0 0 0;");
        x.stages(4, 0, 0, 0, 0);
        x.hears();
        x.hears();
        x.sees(0, 0, 0);
        x.sees(0, 0, 0);
        x.sees(0, 0, 0);
        Due.type(x, "hello");
        int[] counts = {2, 1, 3, 0, 2, 3, 5, 4};
        for (int what = 0; what < 8; what++) {
            Due.is("count(" + what + ")", x.count(what), counts[what]);
        }
        x.drops(0);
        Due.is("count(3) without a stage", x.count(3), 32);
        for (int what : Due.outside(0, 7)) {
            Due.is("count(" + what + ")", x.count(what), Due.BAD);
        }
    }
}

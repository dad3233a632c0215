import java.math.BigInteger;

/** The boundary cases that the promises 15 to 31 name, a test for each. */
public final class BoundaryAskedTest {
    private static final String ALL_MARKED = "m0 1 2 3 4 5 6 7 8 9 10 11 12 13 14 15;";

    public static void main(String[] args) {
        atCorners();
        atWithoutDeedsAndStages();
        atBehindAllStages();
        deedsThatExist();
        stagesThatExist();
        wrongOfTheFirstStages();
        tapsPlaces();
        tapsOfOneRowAlone();
        tapsNone();
        skewOfSeveral();
        skewThroughNone();
        skewOfMarkedPlaces();
        spreadsRange();
        spreadsBehindStages();
        spreadsNone();
        spreadsOfMarkedPlaces();
        spreadsWithoutMarks();
        orderIndex();
        orderOfSeveral();
        lagAround();
        lagWithoutMarks();
        seesAtMostSix();
        forgetAnswers();
        fitsWithoutObservations();
        fitsFirstAndLast();
        fitsNone();
        fitsSmallestAThenB();
        fitsBehindSixDeeds();
        oddsZero();
        oddsOne();
        oddsRanges();
        oddsLowestTerms();
        keepInPlaceOfWhatItHad();
        backWithoutKeep();
        backEndsUndo();
        backLeavesTheRest();
        imagesAreApart();
        countRanges();
        Due.end();
    }

    private static void atCorners() {
        Due.by("at: BAD if an argument is out of range");
        TwistedLight x = Due.told("x3 0 0 0 0 0 0 0 0 0 0 0 0 0 0 2;y1 0 0 0 0 0 0 0 0 0 0 0 0 0 0 1;");
        int[][] corners = {{0, 0, 3}, {0, 15, 2}, {1, 0, 1}, {1, 15, 1}};
        for (int[] c : corners) {
            Due.is("at(.., 0)", x.at(c[0], c[1], 0), c[2]);
            Due.is("at(.., 1)", x.at(c[0], c[1], 1), Due.LIGHT[c[2]]);
            Due.is("at(.., 2)", x.at(c[0], c[1], 2), Due.LIGHT[c[2]]);
            Due.is("at(.., 3)", x.at(c[0], c[1], 3), c[2]);
            Due.is("at(.., 4)", x.at(c[0], c[1], 4), Due.BAD);
            Due.is("at(.., -1)", x.at(c[0], c[1], -1), Due.BAD);
        }
        for (int what = 0; what <= 3; what++) {
            Due.is("row 2", x.at(2, 0, what), Due.BAD);
            Due.is("row -1", x.at(-1, 15, what), Due.BAD);
            Due.is("place 16 of row 0", x.at(0, 16, what), Due.BAD);
            Due.is("place -1 of row 1", x.at(1, -1, what), Due.BAD);
        }
    }

    private static void atWithoutDeedsAndStages() {
        Due.by("1: the number of the air; 2: the number that is received");
        TwistedLight x = new TwistedLight();
        Due.is("air without deeds", x.at(0, 0, 1), 1);
        Due.is("received without stages", x.at(0, 0, 2), 1);
        x.adds(4, 0, 0, 1, 0);
        Due.is("air with one deed", x.at(0, 0, 1), 2);
        Due.is("received without stages", x.at(0, 0, 2), 2);
    }

    private static void atBehindAllStages() {
        Due.by("What is received is the air, changed by all stages in their order");
        TwistedLight x = new TwistedLight();
        x.sends(1, 12, 3);
        for (int by = 1; by <= 4; by++) {
            x.stages(2, by, 0, 0, 0);
        }
        Due.is("the air", x.at(1, 12, 1), 75);
        Due.is("12 - 10", x.at(1, 2, 2), 75);
        Due.is("decided", x.at(1, 2, 3), 3);
        Due.is("what is sent", x.at(1, 2, 0), 0);
        Due.is("the air at 2", x.at(1, 2, 1), 1);
    }

    private static void deedsThatExist() {
        Due.by("deed: BAD if there is no such deed or what is out of range");
        TwistedLight x = new TwistedLight();
        for (int size = 0; size <= 6; size++) {
            for (int k = -1; k <= 7; k++) {
                for (int what = -1; what <= 5; what++) {
                    int[] deed = {4, 1, k, k + 1, 0};
                    boolean is = k >= 0 && k < size && what >= 0 && what <= 4;
                    Due.is("deed(" + k + ", " + what + ") of " + size, x.deed(k, what), is ? deed[what] : Due.BAD);
                }
            }
            x = new TwistedLight();
            for (int n = 0; n <= size; n++) {
                x.adds(4, 1, n, n + 1, 0);
            }
        }
    }

    private static void stagesThatExist() {
        Due.by("stage: BAD if there is no such stage or what is out of range");
        TwistedLight x = new TwistedLight();
        for (int size = 0; size <= 4; size++) {
            for (int k = -1; k <= 5; k++) {
                for (int what = -1; what <= 5; what++) {
                    int[] stage = {1, 96, k, 0, k + 1};
                    boolean is = k >= 0 && k < size && what >= 0 && what <= 4;
                    Due.is("stage(" + k + ", " + what + ") of " + size, x.stage(k, what), is ? stage[what] : Due.BAD);
                }
            }
            x = new TwistedLight();
            for (int n = 0; n <= size; n++) {
                x.stages(1, 96, n, 0, n + 1);
            }
        }
    }

    private static void wrongOfTheFirstStages() {
        Due.by("wrong: n: 0 to the number of stages");
        TwistedLight x = Due.told("y0 0 0 0 0 1 0 0 0 0 0 0 0 0 0 1;d3 6 0 0 0;");
        // Late by 6, one of the two symbols comes to where the other one is sent.
        int[] due = {2, 4, 4, 0, 4};
        for (int size = 0; size <= 4; size++) {
            for (int n = 0; n <= size; n++) {
                Due.is("wrong(" + n + ") of " + size, x.wrong(n), due[n]);
            }
            Due.is("wrong(" + (size + 1) + ") of " + size, x.wrong(size + 1), Due.BAD);
            Due.is("wrong(-1) of " + size, x.wrong(-1), Due.BAD);
            Due.is("errors", x.count(3), due[size]);
            x.stages(2, size + 1, 0, 0, 0);
        }
    }

    private static void tapsPlaces() {
        Due.by("taps: i: a place, 0 to 15; j: another place, 0 to 15; BAD if .. both places are the same");
        TwistedLight x = Due.told("x3;d1 2 5 1 3;");
        int[] due = {3, 92, 96, 2};
        for (int place = 1; place < 16; place++) {
            for (int what = 0; what < 4; what++) {
                Due.is("taps(0, " + place + ", " + what + ")", x.taps(0, place, what), due[what]);
                Due.is("taps(" + place + ", 0, " + what + ")", x.taps(place, 0, what), due[what]);
            }
        }
        for (int place = 0; place < 16; place++) {
            Due.is("both are " + place, x.taps(place, place, 0), Due.BAD);
            Due.is("16 and " + place, x.taps(16, place, 0), Due.BAD);
            Due.is(place + " and -1", x.taps(place, -1, 3), Due.BAD);
        }
        Due.is("16 and 16", x.taps(16, 16, 0), Due.BAD);
        Due.is("what is 4", x.taps(0, 1, 4), Due.BAD);
        Due.is("what is -1", x.taps(0, 1, -1), Due.BAD);
        Due.is("BAD before NONE: what", x.taps(1, 2, 4), Due.BAD);
        Due.is("NONE", x.taps(1, 2, 3), Due.NONE);
    }

    private static void tapsOfOneRowAlone() {
        Due.by("a * u + b * v is the light of what is sent in row 0 and c * u + d * v the light of row 1");
        TwistedLight x = Due.told("x1 2;y3 1;d1 0 1 1 0;");
        int[] swapped = {0, 1, 1, 0};
        for (int what = 0; what < 4; what++) {
            Due.is("a swap, " + what, x.taps(0, 1, what), swapped[what]);
        }
        TwistedLight hit = Due.told("x1 2;y3 1;d4 0 0 75 0;d4 1 1 75 0;");
        // Received are 0 and 75 at the one place, 96 and 0 at the other one.
        int a = hit.taps(0, 1, 0);
        int b = hit.taps(0, 1, 1);
        int c = hit.taps(0, 1, 2);
        int d = hit.taps(0, 1, 3);
        Due.is("0 in what is received: 75 * b", 75 * b % 97, 22);
        Due.is("96 * a", 96 * a % 97, 96);
        Due.is("75 * d", 75 * d % 97, 75);
        Due.is("96 * c", 96 * c % 97, 22);
    }

    private static void tapsNone() {
        Due.by("NONE if there are no such numbers, or more than one choice of them, or if a * d - b * c is 0");
        for (int what = 0; what < 4; what++) {
            Due.is("no such numbers", Due.told("x1;d4 0 0 76 0;").taps(0, 1, what), Due.NONE);
            Due.is("none in row 1 alone", Due.told("y1;d4 1 0 76 0;").taps(0, 1, what), Due.NONE);
            Due.is("more than one choice", new TwistedLight().taps(0, 1, what), Due.NONE);
            Due.is("more than one, as one place is turned", Due.told("x1;y1;").taps(0, 1, what), Due.NONE);
            Due.is("a * d - b * c is 0", Due.told("d4 0 0 5 0;").taps(0, 1, what), Due.NONE);
            Due.is("it is 97", Due.told("x2 1;y0 3;d4 0 0 5 0;").taps(0, 1, what), Due.NONE);
        }
    }

    private static void skewOfSeveral() {
        Due.by("skew: the number n from 0 to 15; of several the smallest one");
        for (int by = 0; by < 16; by++) {
            TwistedLight x = Due.told(ALL_MARKED + "y1 2;" + (by == 0 ? "" : "d3 " + by + " 0 0 0;"));
            Due.is("one alone, late by " + by, x.skew(), by);
            TwistedLight two = Due.told(ALL_MARKED + "y1 0 0 0 0 0 0 0 1;" + (by == 0 ? "" : "d3 " + by + " 0 0 0;"));
            Due.is("two, late by " + by, two.skew(), by % 8);
        }
        Due.is("all fit", new TwistedLight().skew(), 0);
        Due.is("none fits, all are as wrong", Due.told("d2 0 1 0 0;").skew(), 0);
    }

    private static void skewThroughNone() {
        Due.by("for 0 through none");
        TwistedLight x = Due.told(ALL_MARKED + "y1 2;d3 7 0 0 0;");
        x.stages(2, 7, 0, 0, 0);
        Due.is("nothing is left", x.skew(), 0);
        x.stages(2, 1, 0, 0, 0);
        Due.is("early by 15 would be right", x.skew(), 15);
        x.stages(2, 15, 0, 0, 0);
        x.stages(2, 2, 0, 0, 0);
        Due.is("with a full chain", x.skew(), 14);
    }

    private static void skewOfMarkedPlaces() {
        Due.by("the fewest of the numbers at marked places (of both rows) are decided wrong");
        for (int mark = 0; mark < 16; mark++) {
            TwistedLight x = Due.told("m" + mark + ";d3 3 0 0 0;");
            x.sends(1, mark, 2);
            Due.is("the mark " + mark + " alone", x.skew(), 3);
        }
        TwistedLight none = Due.told("m;y1;d3 3 0 0 0;");
        Due.is("without marks", none.skew(), 0);
    }

    private static void spreadsRange() {
        Due.by("spreads: the numbers A from 1 to 96, where A to the power of 16 is not 1");
        for (int a = 1; a <= 96; a++) {
            TwistedLight x = Due.told(ALL_MARKED + "x0 1 2 3 0 1 3 2 2 3 1 0;y3 2 1 0 2 1 0 1 2 3;");
            if (x.adds(0, a, 0, 0, 0) == 1) {
                Due.is("spread by " + a, x.spreads(0), 1);
                Due.is("spread by " + a + ", the smallest", x.spreads(1), a);
            }
        }
        Due.is("what is 2", new TwistedLight().spreads(2), Due.BAD);
        Due.is("what is -1", new TwistedLight().spreads(-1), Due.BAD);
    }

    private static void spreadsBehindStages() {
        Due.by("if what is received goes through a further stage unspread by A");
        TwistedLight x = Due.told(ALL_MARKED + "x0 1 2 3 0 1 3 2 2 3 1 0;y3 2 1 0 2 1 0 1 2 3;d0 5 0 0 0;d0 7 0 0 0;");
        Due.is("two spreads", x.spreads(0), 0);
        x.stages(0, 7, 0, 0, 0);
        Due.is("one of them is left", x.spreads(0), 1);
        Due.is("it is 5", x.spreads(1), 5);
        x.drops(0);
        x.stages(0, 5, 0, 0, 0);
        Due.is("it is 7", x.spreads(1), 7);
        for (int n = 0; n < 3; n++) {
            x.stages(1, 1, 0, 0, 1);
        }
        Due.is("with a full chain", x.spreads(1), 7);
    }

    private static void spreadsNone() {
        Due.by("NONE if what is 1 and there is none");
        TwistedLight x = Due.told(ALL_MARKED + "d2 1 2 0 0;");
        Due.is("how many", x.spreads(0), 0);
        Due.is("the smallest one", x.spreads(1), Due.NONE);
        Due.is("BAD before NONE", x.spreads(2), Due.BAD);
    }

    private static void spreadsOfMarkedPlaces() {
        Due.by("no number at a marked place (of both rows) is decided wrong");
        for (int spot = 0; spot < 32; spot++) {
            TwistedLight x = new TwistedLight();
            for (int place = 0; place < 16; place++) {
                x.marks(place, place == spot % 16 ? 1 : 0);
            }
            x.adds(4, spot / 16, spot % 16, 49, 0);
            int due = 0;
            int first = Due.NONE;
            for (int a = 96; a >= 1; a--) {
                TwistedLight y = new TwistedLight();
                y.adds(4, spot / 16, spot % 16, 49, 0);
                if (y.stages(0, a, 0, 0, 0) == 1 && y.at(0, spot % 16, 3) == 0 && y.at(1, spot % 16, 3) == 0) {
                    due++;
                    first = a;
                }
            }
            Due.is("spreads(0), a hit at " + spot, x.spreads(0), due);
            Due.is("spreads(1), a hit at " + spot, x.spreads(1), first);
        }
    }

    private static void spreadsWithoutMarks() {
        Due.by("no number at a marked place (none is marked)");
        TwistedLight x = Due.told("m;d2 0 2 0 0;");
        Due.is("all of them", x.spreads(0), 80);
        Due.is("the smallest one", x.spreads(1), 2);
    }

    private static void orderIndex() {
        Due.by("order: BAD if k is less than -1; NONE if there are not so many stages");
        TwistedLight x = new TwistedLight();
        for (int size = 0; size <= 4; size++) {
            Due.is("order(-2) of " + size, x.order(-2), Due.BAD);
            Due.is("order(MIN) of " + size, x.order(Integer.MIN_VALUE), Due.BAD);
            Due.is("order(-1) of " + size, x.order(-1), 0);
            for (int k = 0; k < size; k++) {
                Due.is("order(" + k + ") of " + size, x.order(k), k);
            }
            Due.is("order(" + size + ") of " + size, x.order(size), Due.NONE);
            Due.is("order(MAX) of " + size, x.order(Integer.MAX_VALUE), Due.NONE);
            x.stages(3, 0, 0, 0, 0);
        }
    }

    private static void orderOfSeveral() {
        Due.by("the one with the fewest errors; of several the first one in lexicographic order");
        // The untwist must come first; the three that are early keep the order of their numbers.
        for (int place = 0; place < 4; place++) {
            TwistedLight x = Due.told("x1 2;y0 3;d3 3 0 0 0;d1 1 5 1 6;");
            for (int k = 0; k < 4; k++) {
                if (k == place) {
                    x.stages(1, 1, 5, 1, 6);
                } else {
                    x.stages(2, 1, 0, 0, 0);
                }
            }
            Due.is("order(-1), untwist at " + place, x.order(-1), 0);
            Due.is("order(0), untwist at " + place, x.order(0), place);
            for (int k = 1; k < 4; k++) {
                Due.is("order(" + k + "), untwist at " + place, x.order(k), k <= place ? k - 1 : k);
            }
        }
    }

    private static void lagAround() {
        Due.by("lag: how many places, from this one on, there are before the next marked one (cyclically): 0 if it is "
                + "marked itself");
        for (int mark = 0; mark < 16; mark++) {
            TwistedLight x = Due.told("m" + mark + ";");
            for (int place = 0; place < 16; place++) {
                Due.is("lag(" + place + ") with the mark " + mark, x.lag(place), Math.floorMod(mark - place, 16));
            }
            Due.is("lag(16)", x.lag(16), Due.BAD);
            Due.is("lag(-1)", x.lag(-1), Due.BAD);
        }
        TwistedLight all = Due.told(ALL_MARKED);
        for (int place = 0; place < 16; place++) {
            Due.is("lag(" + place + ") if all are marked", all.lag(place), 0);
        }
    }

    private static void lagWithoutMarks() {
        Due.by("16 if no place is marked");
        TwistedLight x = Due.told("m;");
        for (int place = 0; place < 16; place++) {
            Due.is("lag(" + place + ")", x.lag(place), 16);
        }
        Due.is("lag(16)", x.lag(16), Due.BAD);
        Due.is("lag(-1)", x.lag(-1), Due.BAD);
    }

    private static void seesAtMostSix() {
        Due.by("sees: Returns how many observations there are then; FULL if there are 6");
        TwistedLight x = new TwistedLight();
        for (int n = 1; n <= 6; n++) {
            Due.is("the " + n + "th", x.sees(n % 2, 15, 0), n);
        }
        Due.is("the 7th", x.sees(0, 0, 0), Due.FULL);
        Due.is("BAD before FULL: row 2", x.sees(2, 0, 0), Due.BAD);
        Due.is("BAD before FULL: row -1", x.sees(-1, 0, 0), Due.BAD);
        Due.is("BAD before FULL: place 16", x.sees(0, 16, 0), Due.BAD);
        Due.is("BAD before FULL: place -1", x.sees(0, -1, 0), Due.BAD);
        Due.is("BAD before FULL: symbol 4", x.sees(0, 0, 4), Due.BAD);
        Due.is("BAD before FULL: symbol -1", x.sees(0, 0, -1), Due.BAD);
        Due.is("observations", x.count(5), 6);
        // All say that place 15 is 0 with the slip, which no slip leaves as it is.
        Due.is("fits(0)", x.fits(0), 0);
        Due.is("forget()", x.forget(), 6);
        Due.is("there is room again", x.sees(0, 0, 0), 1);
    }

    private static void forgetAnswers() {
        Due.by("forget: Returns how many there were");
        TwistedLight x = new TwistedLight();
        for (int size = 0; size <= 6; size++) {
            for (int n = 0; n < size; n++) {
                x.sees(1, n, 1);
            }
            Due.is("forget() of " + size, x.forget(), size);
            Due.is("observations", x.count(5), 0);
            Due.is("forget() of none", x.forget(), 0);
        }
    }

    private static void fitsWithoutObservations() {
        Due.by("the slips with which all observations are true (there is none)");
        Due.is("all of them", new TwistedLight().fits(0), 48);
        Due.is("the first one: 4 * 0 + 1", new TwistedLight().fits(1), 1);
        Due.is("what is 2", new TwistedLight().fits(2), Due.BAD);
        Due.is("what is -1", new TwistedLight().fits(-1), Due.BAD);
    }

    private static void fitsFirstAndLast() {
        Due.by("the slips (from A, 0 to 15, by B, 1 to 3)");
        for (int a = 0; a < 16; a++) {
            for (int b = 1; b <= 3; b++) {
                TwistedLight x = new TwistedLight();
                Due.is("sees turned at " + a, x.sees(b % 2, a, b), 1);
                Due.is("slips by " + b + " up to " + a, x.fits(0), a + 1);
                Due.is("the first one", x.fits(1), b);
                if (a > 0) {
                    Due.is("sees unturned before it", x.sees(a % 2, a - 1, 0), 2);
                    Due.is("this one alone", x.fits(0), 1);
                    Due.is("4 * " + a + " + " + b, x.fits(1), 4 * a + b);
                }
            }
        }
    }

    private static void fitsNone() {
        Due.by("NONE if what is 1 and there is none");
        TwistedLight x = new TwistedLight();
        // Place 15 is turned by any slip.
        x.sees(0, 15, 0);
        Due.is("how many", x.fits(0), 0);
        Due.is("the first one", x.fits(1), Due.NONE);
        Due.is("BAD before NONE", x.fits(2), Due.BAD);
        x.forget();
        x.sees(0, 3, 1);
        x.sees(1, 3, 2);
        Due.is("observations that exclude each other", x.fits(1), Due.NONE);
    }

    private static void fitsSmallestAThenB() {
        Due.by("the first one, with the smallest A and then the smallest B, as 4 * A + B");
        TwistedLight x = new TwistedLight();
        x.sees(0, 6, 0);
        Due.is("from 7 on", x.fits(0), 27);
        Due.is("4 * 7 + 1", x.fits(1), 29);
        TwistedLight zero = Due.told("x0;d4 0 9 96 0;");
        // 0 is 0 however it is turned; row 1 is turned by 2 or by 3.
        zero.sees(0, 9, 0);
        Due.is("all fit", zero.fits(0), 48);
        zero.adds(4, 1, 9, 28, 0);
        // 29 turned is 56, 68 and 41: 3, 3 and 1.
        zero.sees(1, 9, 3);
        Due.is("by 1 or by 2 up to 9", zero.fits(0), 20);
        Due.is("the smallest B", zero.fits(1), 1);
        zero.sees(0, 4, 0);
        Due.is("4 * 5 + 1", zero.fits(1), 21);
        Due.is("from 5 to 9", zero.fits(0), 10);
    }

    private static void fitsBehindSixDeeds() {
        Due.by("with an unknown slip as a further deed behind all deeds of the line");
        TwistedLight x = Due.told("y1;d3 1 0 0 0;d3 1 0 0 0;d3 1 0 0 0;d3 1 0 0 0;d3 1 0 0 0;d3 1 0 0 0;");
        for (int n = 1; n <= 4; n++) {
            x.stages(2, 1, 0, 0, 0);
        }
        // The 1 of row 1 is at place 6 when it slips, and received at place 2.
        x.sees(1, 2, 2);
        x.sees(1, 1, 0);
        Due.is("one alone", x.fits(0), 1);
        Due.is("4 * 6 + 1", x.fits(1), 25);
        Due.is("deeds", x.count(0), 6);
    }

    private static void odds(int x, int n, int k, int numerator, int denominator) {
        TwistedLight light = new TwistedLight();
        String call = "odds(" + x + ", " + n + ", " + k + ", ";
        Due.is(call + "0)", light.odds(x, n, k, 0), numerator);
        Due.is(call + "1)", light.odds(x, n, k, 1), denominator);
    }

    private static void oddsZero() {
        Due.by("(0 is 0/1)");
        for (int n = 1; n <= 8; n++) {
            for (int k = 0; k < n; k++) {
                odds(10, n, k, 0, 1);
            }
        }
    }

    private static void oddsOne() {
        Due.by("the probability that at most k of n symbols are wrong");
        for (int n = 0; n <= 8; n++) {
            for (int k = 0; k <= 8; k++) {
                odds(0, n, k, 1, 1);
                if (k >= n) {
                    odds(3, n, k, 1, 1);
                    odds(10, n, k, 1, 1);
                }
            }
        }
        odds(1, 8, 0, 43046721, 100000000);
        odds(9, 8, 7, 56953279, 100000000);
        odds(5, 8, 7, 255, 256);
        odds(2, 1, 0, 4, 5);
        odds(5, 1, 0, 1, 2);
    }

    private static void oddsRanges() {
        Due.by("x: 0 to 10; n: 0 to 8; k: 0 to 8; what: 0 or 1");
        TwistedLight x = new TwistedLight();
        int[][] wrong = {{-1, 8, 8, 0}, {11, 8, 8, 0}, {10, -1, 8, 0}, {10, 9, 8, 0}, {10, 8, -1, 0}, {10, 8, 9, 0},
            {10, 8, 8, -1}, {10, 8, 8, 2}, {0, 0, 0, 2}, {0, 0, -1, 1}, {0, -1, 0, 1}, {-1, 0, 0, 1}};
        for (int[] w : wrong) {
            Due.is("odds(" + w[0] + ", " + w[1] + ", " + w[2] + ", " + w[3] + ")", x.odds(w[0], w[1], w[2], w[3]),
                    Due.BAD);
        }
        odds(10, 8, 8, 1, 1);
        odds(0, 0, 0, 1, 1);
        odds(10, 0, 8, 1, 1);
        odds(0, 8, 0, 1, 1);
    }

    private static void oddsLowestTerms() {
        Due.by("as a fraction in lowest terms");
        TwistedLight light = new TwistedLight();
        for (int x = 1; x <= 9; x++) {
            for (int n = 1; n <= 8; n++) {
                light = new TwistedLight();
                for (int k = 0; k < n; k++) {
                    int numerator = light.odds(x, n, k, 0);
                    int denominator = light.odds(x, n, k, 1);
                    BigInteger divisor = BigInteger.valueOf(numerator).gcd(BigInteger.valueOf(denominator));
                    Due.is("common divisor of " + numerator + " and " + denominator, divisor.intValueExact(), 1);
                    Due.is("it is less than 1", numerator < denominator ? 1 : 0, 1);
                }
            }
        }
    }

    private static void keepInPlaceOfWhatItHad() {
        Due.by("keep: Saves the state in an image, in place of what it had");
        TwistedLight x = new TwistedLight();
        for (int stages = 0; stages <= 4; stages++) {
            Due.is("keep(0)", x.keep(0), stages);
            x.sends(0, 0, (stages + 1) % 4);
            x.stages(2, stages + 1, 0, 0, 0);
            Due.is("back(0)", x.back(0), stages);
            Due.is("sent", x.at(0, 0, 0), stages % 4);
            Due.is("back(0) again", x.back(0), stages);
            x.sends(0, 0, (stages + 1) % 4);
            x.stages(2, stages + 1, 0, 0, 0);
        }
        Due.is("keep(2)", x.keep(2), Due.BAD);
        Due.is("keep(-1)", x.keep(-1), Due.BAD);
    }

    private static void backWithoutKeep() {
        Due.by("back: BAD if image is out of range; STATE if the image was not saved");
        TwistedLight x = new TwistedLight();
        x.sends(0, 0, 1);
        Due.is("back(0)", x.back(0), Due.STATE);
        Due.is("back(1)", x.back(1), Due.STATE);
        Due.is("back(2)", x.back(2), Due.BAD);
        Due.is("back(-1)", x.back(-1), Due.BAD);
        Due.is("acts", x.count(7), 1);
        x.keep(1);
        Due.is("back(0) behind keep(1)", x.back(0), Due.STATE);
        Due.is("back(1) behind keep(1)", x.back(1), 0);
    }

    private static void backEndsUndo() {
        Due.by("No act can be undone then");
        TwistedLight x = new TwistedLight();
        for (int n = 1; n <= 7; n++) {
            x.hears();
        }
        x.keep(0);
        Due.is("keep() leaves them", x.count(7), 6);
        Due.is("back(0)", x.back(0), 0);
        Due.is("acts", x.count(7), 0);
        Due.is("undo()", x.undo(), Due.STATE);
        Due.is("heard", x.count(4), 7);
        x.hears();
        Due.is("undo() of an act behind it", x.undo(), 0);
        Due.is("heard", x.count(4), 7);
        Due.is("undo() beyond", x.undo(), Due.STATE);
    }

    private static void backLeavesTheRest() {
        Due.by("the state (see Acts); Restores the state that an image has");
        TwistedLight x = new TwistedLight();
        x.sees(0, 9, 2);
        Due.type(x, "x1;");
        x.keep(0);
        x.sees(0, 8, 0);
        Due.type(x, "y4");
        Due.is("back(0)", x.back(0), 0);
        Due.is("observations", x.count(5), 2);
        Due.is("they are the same", x.fits(1), 4 * 9 + 2);
        Due.is("characters", x.count(6), 5);
        Due.is("they are the same", x.block(), -14);
    }

    private static void imagesAreApart() {
        Due.by("Restores the state that an image has; the image stays");
        TwistedLight x = Due.told("x1;m1;d2 0 2 0 0;");
        x.stages(2, 1, 0, 0, 0);
        x.hears();
        x.keep(0);
        Due.type(x, "y2;");
        x.block();
        x.drops(0);
        x.hears();
        x.keep(1);
        x.back(0);
        x.cuts();
        x.marks(9, 1);
        Due.is("undo() changes no image", x.undo(), 1);
        Due.is("back(1)", x.back(1), 0);
        Due.is("what is sent in image 1", x.at(1, 0, 0) * 10 + x.at(0, 0, 0), 20);
        Due.is("heard in image 1", x.count(4), 2);
        Due.is("marked in image 1", x.count(2), 4);
        Due.is("back(0)", x.back(0), 1);
        TwistedLight again = Due.told("x1;m1;d2 0 2 0 0;");
        again.stages(2, 1, 0, 0, 0);
        again.hears();
        again.keep(0);
        again.back(0);
        Due.is("image 0", Readout.of(x), Readout.of(again));
    }

    private static void countRanges() {
        Due.by("count: BAD if what is out of range");
        TwistedLight x = new TwistedLight();
        for (int what = -3; what <= 11; what++) {
            int due = what < 0 || what > 7 ? Due.BAD : what == 2 ? 4 : 0;
            Due.is("count(" + what + ")", x.count(what), due);
        }
        Due.is("count(MIN)", x.count(Integer.MIN_VALUE), Due.BAD);
        Due.is("count(MAX)", x.count(Integer.MAX_VALUE), Due.BAD);
        Due.by("count: 0: deeds; 1: stages; 2: marked places; 3: errors; 4: heard; 5: observations; 6: characters; "
                + "7: acts that can be undone (each at its most)");
        for (int n = 0; n < 7; n++) {
            x.adds(2, 0, 2, 0, 0);
            x.stages(2, 1, 0, 0, 0);
            x.sees(0, 0, 0);
        }
        x.cuts();
        for (int n = 0; n < 161; n++) {
            x.type(' ');
        }
        for (int place = 0; place < 16; place++) {
            x.marks(place, 1);
        }
        x.hears();
        int[] due = {5, 4, 16, 32, 1, 6, 160, 6};
        for (int what = 0; what < 8; what++) {
            Due.is("count(" + what + ")", x.count(what), due[what]);
        }
    }
}

import java.util.function.Consumer;

/** The boundary cases that the section "Acts" and the promises 5 to 14 name, a test for each. */
public final class BoundaryActsTest {
    public static void main(String[] args) {
        eachActIsUndone();
        whatIsNoAct();
        refusedCallsAreNoActs();
        lastSixActs();
        latestFirst();
        undoBetweenActs();
        manyActs();
        sendsAnswers();
        sendsAtTheCorners();
        marksAnswers();
        addsAnswers();
        cutsAnswers();
        stagesAnswers();
        dropsAnswers();
        dropsDecreasesNumbers();
        learnsPlaces();
        learnsInverse();
        learnsWithoutTaps();
        learnsOrderOfCodes();
        ordersOfFewStages();
        ordersOfTies();
        ordersIsAnAct();
        hearsOfNothing();
        hearsOfAll();
        lossIsAFloat();
        lossIsRestored();
        undoOfNothing();
        upTo512Calls();
        Due.end();
    }

    // ---- Acts

    /** Something of everything, with four acts made; places 2 and 3 have taps. */
    private static TwistedLight someOfEverything() {
        TwistedLight x = Due.told("x0 0 2 1;y0 0 1 3;m1 9;d3 2 0 0 0;d1 2 5 1 3;");
        x.stages(2, 2, 0, 0, 0);
        x.stages(1, 2, 5, 1, 3);
        x.hears();
        x.sees(1, 1, 1);
        return x;
    }

    private static void eachActIsUndone() {
        Due.by("The state that is restored consists of the sent symbols, the marked places, the line, the chain, the "
                + "loss and heard");
        isUndone("sends(1, 15, 3)", x -> x.sends(1, 15, 3));
        isUndone("marks(1, 0)", x -> x.marks(1, 0));
        isUndone("marks(15, 1)", x -> x.marks(15, 1));
        isUndone("adds(4, 0, 0, 96, 0)", x -> x.adds(4, 0, 0, 96, 0));
        isUndone("cuts()", x -> x.cuts());
        isUndone("stages(4, 0, 0, 0, 0)", x -> x.stages(4, 0, 0, 0, 0));
        isUndone("drops(0)", x -> x.drops(0));
        isUndone("drops(1)", x -> x.drops(1));
        isUndone("learns(2, 3)", x -> x.learns(2, 3));
        isUndone("orders()", x -> x.orders());
        isUndone("hears()", x -> x.hears());
    }

    private static void isUndone(String name, Consumer<TwistedLight> act) {
        TwistedLight x = someOfEverything();
        String before = Readout.of(x);
        int acts = x.count(7);
        act.accept(x);
        Due.is(name + " is an act", x.count(7), acts + 1);
        Due.is(name + " changes something", Readout.of(x).equals(before) ? 0 : 1, 1);
        Due.is(name + ", then undo()", x.undo(), acts);
        Due.is(name + " undone", Readout.of(x), before);
    }

    private static void whatIsNoAct() {
        Due.by("The successful calls of block(), sends(), marks(), adds(), cuts(), stages(), drops(), learns(), "
                + "orders() and hears() are acts");
        TwistedLight x = someOfEverything();
        x.type('m');
        x.clear();
        x.keep(0);
        x.sees(0, 0, 0);
        x.forget();
        x.at(0, 0, 3);
        x.deed(0, 0);
        x.stage(0, 0);
        x.wrong(1);
        x.loss();
        x.taps(2, 3, 0);
        x.skew();
        x.spreads(0);
        x.order(-1);
        x.order(0);
        x.lag(0);
        x.fits(0);
        x.odds(3, 2, 0, 0);
        x.count(7);
        Due.is("acts", x.count(7), 4);
        Due.is("undo()", x.undo(), 3);
        Due.is("it undoes hears()", x.count(4), 0);
        Due.is("undo() is none either", x.count(7), 3);
    }

    private static void refusedCallsAreNoActs() {
        Due.by("The successful calls are acts");
        TwistedLight x = someOfEverything();
        Due.is("sends(0, 0, 0)", x.sends(0, 0, 0), Due.STATE);
        Due.is("marks(1, 1)", x.marks(1, 1), Due.STATE);
        Due.is("adds(3, 0, 0, 0, 0)", x.adds(3, 0, 0, 0, 0), Due.BAD);
        Due.is("stages(3, 1, 0, 0, 0)", x.stages(3, 1, 0, 0, 0), Due.BAD);
        Due.is("drops(2)", x.drops(2), Due.BAD);
        Due.is("learns(5, 6)", x.learns(5, 6), Due.STATE);
        x.type(';');
        Due.is("block()", x.block(), -10);
        Due.is("acts", x.count(7), 4);
    }

    private static void lastSixActs() {
        Due.by("The last 6 acts can be undone");
        for (int acts = 0; acts <= 20; acts++) {
            TwistedLight x = new TwistedLight();
            for (int n = 1; n <= acts; n++) {
                x.sends(n % 2, n % 16, 1 + n % 3);
                Due.is("acts that can be undone behind " + n, x.count(7), Math.min(n, 6));
            }
            int most = Math.min(acts, 6);
            for (int left = most - 1; left >= 0; left--) {
                Due.is("undo() of " + acts, x.undo(), left);
                Due.is("acts that can be undone", x.count(7), left);
            }
            Due.is("undo() beyond", x.undo(), Due.STATE);
            Due.is("acts that can be undone", x.count(7), 0);
        }
    }

    private static void latestFirst() {
        Due.by("the latest one first");
        TwistedLight x = new TwistedLight();
        for (int place = 1; place <= 9; place++) {
            x.sends(0, place, 2);
        }
        for (int undone = 1; undone <= 6; undone++) {
            x.undo();
            for (int place = 1; place <= 9; place++) {
                Due.is("at " + place + ", undone " + undone, x.at(0, place, 0), place <= 9 - undone ? 2 : 0);
            }
        }
    }

    private static void undoBetweenActs() {
        Due.by("Undoes the latest act that has not been undone");
        TwistedLight x = new TwistedLight();
        x.sends(0, 0, 1);
        x.sends(0, 0, 2);
        Due.is("undo() of the second", x.undo(), 1);
        Due.is("the first stands", x.at(0, 0, 0), 1);
        x.sends(0, 0, 3);
        Due.is("two acts", x.count(7), 2);
        Due.is("undo() of the third", x.undo(), 1);
        Due.is("to the first again", x.at(0, 0, 0), 1);
        Due.is("undo() of the first", x.undo(), 0);
        Due.is("nothing is sent", x.at(0, 0, 0), 0);
        for (int round = 0; round < 5; round++) {
            for (int n = 1; n <= 4; n++) {
                Due.is("marks", x.marks(2 * n - 1, 1), 4 + n);
            }
            for (int left = 3; left >= 0; left--) {
                Due.is("undo() in round " + round, x.undo(), left);
                Due.is("marked places", x.count(2), 4 + left);
            }
        }
    }

    private static void manyActs() {
        Due.by("The last 6 acts can be undone, the latest one first");
        TwistedLight x = new TwistedLight();
        int heard = 0;
        for (int round = 0; round < 30; round++) {
            for (int n = 0; n < 7; n++) {
                x.hears();
            }
            heard += 7;
            for (int n = 1; n <= round % 7; n++) {
                Due.is("undo() in round " + round, x.undo(), 6 - n);
                heard--;
            }
            Due.is("heard in round " + round, x.count(4), heard);
        }
    }

    // ---- Promises 5 to 8

    private static void sendsAnswers() {
        Due.by("sends: Returns what was sent there before; STATE if this symbol is sent there already");
        TwistedLight x = new TwistedLight();
        int before = 0;
        for (int symbol : new int[] {1, 2, 3, 0, 3, 1, 0}) {
            Due.is("sends(1, 7, " + symbol + ")", x.sends(1, 7, symbol), before);
            Due.is("sends(1, 7, " + symbol + ") again", x.sends(1, 7, symbol), Due.STATE);
            Due.is("at(1, 7, 0)", x.at(1, 7, 0), symbol);
            before = symbol;
        }
        Due.is("BAD before STATE: row 2", x.sends(2, 7, 0), Due.BAD);
        Due.is("BAD before STATE: place 16", x.sends(1, 16, 0), Due.BAD);
        Due.is("BAD before STATE: symbol 4", x.sends(1, 7, 4), Due.BAD);
    }

    private static void sendsAtTheCorners() {
        Due.by("row: 0 or 1; place: 0 to 15");
        for (int spot = 0; spot < 32; spot++) {
            TwistedLight x = new TwistedLight();
            Due.is("sends at " + spot, x.sends(spot / 16, spot % 16, 3), 0);
            for (int other = 0; other < 32; other++) {
                Due.is("at " + other, x.at(other / 16, other % 16, 0), other == spot ? 3 : 0);
            }
        }
    }

    private static void marksAnswers() {
        Due.by("marks: Returns the number of marked places then; STATE if it is so already");
        TwistedLight x = new TwistedLight();
        int marked = 4;
        for (int place = 0; place < 16; place++) {
            if (place % 4 != 0) {
                Due.is("marks(" + place + ", 0) at first", x.marks(place, 0), Due.STATE);
                marked++;
                Due.is("marks(" + place + ", 1)", x.marks(place, 1), marked);
            }
            Due.is("marks(" + place + ", 1) again", x.marks(place, 1), Due.STATE);
        }
        Due.is("all are marked", marked, 16);
        for (int place = 15; place >= 0; place--) {
            Due.is("marks(" + place + ", 0)", x.marks(place, 0), place);
            Due.is("marks(" + place + ", 0) again", x.marks(place, 0), Due.STATE);
        }
        Due.is("none is marked", x.count(2), 0);
        Due.is("marks(15, 1)", x.marks(15, 1), 1);
        Due.is("BAD before STATE: place 16", x.marks(16, 0), Due.BAD);
        Due.is("BAD before STATE: place -1", x.marks(-1, 0), Due.BAD);
        Due.is("BAD before STATE: is 2", x.marks(15, 2), Due.BAD);
        Due.is("BAD before STATE: is -1", x.marks(15, -1), Due.BAD);
    }

    private static void addsAnswers() {
        Due.by("adds: Returns the number of deeds then; FULL if there are 6 deeds");
        TwistedLight x = new TwistedLight();
        for (int n = 1; n <= 6; n++) {
            Due.is("the " + n + "th", x.adds(3, n, 0, 0, 0), n);
        }
        Due.is("the 7th", x.adds(3, 7, 0, 0, 0), Due.FULL);
        Due.is("BAD before FULL: kind 5", x.adds(5, 7, 0, 0, 0), Due.BAD);
        Due.is("BAD before FULL: kind -1", x.adds(-1, 7, 0, 0, 0), Due.BAD);
        Due.is("BAD before FULL: numbers", x.adds(3, 16, 0, 0, 0), Due.BAD);
        Due.is("cuts()", x.cuts(), 5);
        Due.is("there is room again", x.adds(3, 7, 0, 0, 0), 6);
        Due.is("deed(5, 1)", x.deed(5, 1), 7);
    }

    private static void cutsAnswers() {
        Due.by("cuts: Returns how many deeds are left; STATE if there is none");
        TwistedLight x = new TwistedLight();
        Due.is("cuts() of none", x.cuts(), Due.STATE);
        for (int n = 1; n <= 6; n++) {
            x.adds(3, n, 0, 0, 0);
        }
        for (int left = 5; left >= 0; left--) {
            Due.is("cuts()", x.cuts(), left);
            for (int k = 0; k < 6; k++) {
                Due.is("deed(" + k + ", 1)", x.deed(k, 1), k < left ? k + 1 : Due.BAD);
            }
        }
        Due.is("cuts() of none", x.cuts(), Due.STATE);
    }

    // ---- Promises 9 to 14

    private static void stagesAnswers() {
        Due.by("stages: Returns the number of stages then; FULL if there are 4 stages");
        TwistedLight x = new TwistedLight();
        for (int n = 1; n <= 4; n++) {
            Due.is("the " + n + "th", x.stages(2, n, 0, 0, 0), n);
        }
        Due.is("the 5th", x.stages(2, 5, 0, 0, 0), Due.FULL);
        Due.is("BAD before FULL: kind 5", x.stages(5, 0, 0, 0, 0), Due.BAD);
        Due.is("BAD before FULL: kind -1", x.stages(-1, 0, 0, 0, 0), Due.BAD);
        Due.is("BAD before FULL: numbers", x.stages(3, 1, 0, 0, 0), Due.BAD);
        Due.is("drops(0)", x.drops(0), 3);
        Due.is("there is room again", x.stages(2, 5, 0, 0, 0), 4);
        Due.is("stage(3, 1)", x.stage(3, 1), 5);
    }

    private static void dropsAnswers() {
        Due.by("drops: Returns how many stages are left; BAD if there is no such stage");
        TwistedLight x = new TwistedLight();
        Due.is("drops(0) of none", x.drops(0), Due.BAD);
        for (int n = 1; n <= 4; n++) {
            Due.is("drops of one too many", x.drops(n - 1), Due.BAD);
            x.stages(2, n, 0, 0, 0);
        }
        Due.is("drops(-1)", x.drops(-1), Due.BAD);
        for (int left = 3; left >= 0; left--) {
            Due.is("drops(" + (left + 1) + ")", x.drops(left + 1), Due.BAD);
            Due.is("drops(" + left + ")", x.drops(left), left);
        }
        Due.is("drops(0) of none", x.drops(0), Due.BAD);
    }

    private static void dropsDecreasesNumbers() {
        Due.by("the numbers of the stages behind it decrease by 1");
        for (int dropped = 0; dropped < 4; dropped++) {
            TwistedLight x = new TwistedLight();
            x.stages(0, 2, 0, 0, 0);
            x.stages(1, 5, 6, 7, 8);
            x.stages(2, 9, 0, 0, 0);
            x.stages(4, 0, 0, 0, 0);
            int[][] stages = {{0, 2, 0, 0, 0}, {1, 5, 6, 7, 8}, {2, 9, 0, 0, 0}, {4, 0, 0, 0, 0}};
            x.drops(dropped);
            for (int k = 0; k < 4; k++) {
                for (int what = 0; what < 5; what++) {
                    int due = k == 3 ? Due.BAD : stages[k < dropped ? k : k + 1][what];
                    Due.is("stage(" + k + ", " + what + ") without " + dropped, x.stage(k, what), due);
                }
            }
        }
    }

    /** Places 0 and 15 have lights of their own; the other ones are 1 in both rows. */
    private static TwistedLight twisted(int place) {
        TwistedLight x = new TwistedLight();
        x.sends(0, place, 2);
        x.sends(1, place, 1);
        x.adds(1, 2, 5, 1, 3);
        return x;
    }

    private static void learnsPlaces() {
        Due.by("learns: i: a place, 0 to 15; j: another place, 0 to 15");
        int[][] pairs = {{0, 15}, {15, 0}, {14, 15}, {15, 14}, {0, 1}, {1, 0}};
        for (int[] p : pairs) {
            for (int own : p) {
                TwistedLight x = twisted(own);
                Due.is("learns(" + p[0] + ", " + p[1] + ")", x.learns(p[0], p[1]), 1);
                int[] due = {1, 2, 5, 1, 3};
                for (int what = 0; what < 5; what++) {
                    Due.is("stage(0, " + what + ")", x.stage(0, what), due[what]);
                }
                Due.is("errors", x.count(3), 0);
                Due.is("learns(" + p[0] + ", " + p[0] + ")", x.learns(p[0], p[0]), Due.BAD);
                Due.is("learns(16, " + p[1] + ")", x.learns(16, p[1]), Due.BAD);
                Due.is("learns(" + p[0] + ", -1)", x.learns(p[0], -1), Due.BAD);
            }
        }
    }

    private static void learnsInverse() {
        Due.by("the untwist after which what is received at both places is the light of what is sent there");
        TwistedLight x = Due.told("x2 1 3;y0 0 1;d2 0 1 0 0;d0 3 0 0 0;d1 7 3 96 9;d4 0 1 50 0;");
        x.stages(2, 1, 0, 0, 0);
        int stages = 1;
        for (int[] p : new int[][] {{0, 1}, {2, 1}, {15, 2}}) {
            Due.is("learns(" + p[0] + ", " + p[1] + ")", x.learns(p[0], p[1]), ++stages);
            for (int place : p) {
                Due.is("row 0 at " + place, x.at(0, place, 2), Due.LIGHT[x.at(0, place, 0)]);
                Due.is("row 1 at " + place, x.at(1, place, 2), Due.LIGHT[x.at(1, place, 0)]);
            }
            // What it undoes are the taps: the next taps for the same places are 1, 0, 0, 1.
            Due.is("taps then", x.taps(p[0], p[1], 0) * 1000 + x.taps(p[0], p[1], 1) * 100
                    + x.taps(p[0], p[1], 2) * 10 + x.taps(p[0], p[1], 3), 1001);
        }
    }

    private static void learnsWithoutTaps() {
        Due.by("learns: STATE if taps() returns NONE");
        TwistedLight same = new TwistedLight();
        Due.is("more than one choice", same.learns(0, 1), Due.STATE);
        TwistedLight none = Due.told("x1;d4 0 0 76 0;");
        Due.is("no such numbers: 22 + 76 = 1", none.learns(0, 1), Due.STATE);
        TwistedLight flat = Due.told("d4 0 0 5 0;");
        Due.is("a * d - b * c is 0", flat.learns(0, 1), Due.STATE);
        Due.is("taps are NONE", flat.taps(0, 1, 0), Due.NONE);
        Due.is("no stage", flat.count(1), 0);
    }

    private static void learnsOrderOfCodes() {
        Due.by("If several of them apply, the first one in this order is returned");
        TwistedLight x = new TwistedLight();
        for (int n = 1; n <= 4; n++) {
            x.stages(1, 1, 0, 0, 1);
        }
        Due.is("BAD before STATE and FULL: 3, 3", x.learns(3, 3), Due.BAD);
        Due.is("BAD before STATE and FULL: 16", x.learns(16, 3), Due.BAD);
        Due.is("STATE before FULL", x.learns(0, 1), Due.STATE);
        x.sends(0, 0, 1);
        Due.is("BAD before FULL", x.learns(0, 0), Due.BAD);
        Due.is("FULL", x.learns(0, 1), Due.FULL);
        Due.is("taps() do not mind", x.taps(0, 1, 0), 1);
        x.drops(0);
        Due.is("there is room again", x.learns(0, 1), 4);
    }

    private static void ordersOfFewStages() {
        Due.by("orders: STATE if they are in this order already");
        TwistedLight x = new TwistedLight();
        Due.is("orders() of none", x.orders(), Due.STATE);
        x.adds(3, 4, 0, 0, 0);
        x.stages(2, 5, 0, 0, 0);
        Due.is("orders() of one", x.orders(), Due.STATE);
        x.stages(2, 15, 0, 0, 0);
        Due.is("orders() of two that may be swapped", x.orders(), Due.STATE);
        Due.is("stage(0, 1)", x.stage(0, 1), 5);
        Due.is("acts", x.count(7), 3);
    }

    /** Both stages that are early may come first, but not behind the untwist. */
    private static void ordersOfTies() {
        Due.by("of several the first one in lexicographic order of the present numbers of the stages");
        TwistedLight x = Due.told("x1 2;y0 0 3;d1 1 5 1 6;d3 3 0 0 0;");
        x.stages(1, 1, 5, 1, 6);
        x.stages(2, 1, 0, 0, 0);
        x.stages(2, 2, 0, 0, 0);
        Due.is("errors before", x.count(3) > 0 ? 1 : 0, 1);
        int[] due = {1, 2, 0};
        for (int k = 0; k < 3; k++) {
            Due.is("order(" + k + "), not 2 1 0", x.order(k), due[k]);
        }
        Due.is("orders()", x.orders(), 0);
        Due.is("stages", x.stage(0, 1) * 100 + x.stage(1, 1) * 10 + x.stage(2, 1), 121);
        Due.is("kinds", x.stage(0, 0) * 100 + x.stage(1, 0) * 10 + x.stage(2, 0), 221);
        Due.is("all four numbers of the twist", x.stage(2, 2) * 100 + x.stage(2, 3) * 10 + x.stage(2, 4), 516);
        Due.is("orders() again", x.orders(), Due.STATE);
    }

    private static void ordersIsAnAct() {
        Due.by("Puts the stages of the chain into the best order. This is an act");
        TwistedLight x = Due.told("x1 2;y0 0 3;d1 1 5 1 6;d3 3 0 0 0;");
        x.stages(1, 1, 5, 1, 6);
        x.stages(2, 3, 0, 0, 0);
        int wrong = x.count(3);
        Due.is("orders()", x.orders(), 0);
        Due.is("errors then", x.count(3), 0);
        Due.is("undo()", x.undo(), 3);
        Due.is("errors again", x.count(3), wrong);
        Due.is("stage(0, 4)", x.stage(0, 4), 6);
        Due.is("stage(1, 1)", x.stage(1, 1), 3);
    }

    private static void hearsOfNothing() {
        Due.by("hears: Returns w (0 errors)");
        TwistedLight x = new TwistedLight();
        Due.is("hears()", x.hears(), 0);
        Due.is("loss()", x.loss(), 0);
        Due.is("heard", x.count(4), 1);
        Due.is("it is an act", x.count(7), 1);
        Due.is("undo()", x.undo(), 0);
        Due.is("heard then", x.count(4), 0);
    }

    private static void hearsOfAll() {
        Due.by("hears: Returns w (32 errors)");
        TwistedLight x = Due.told("d2 0 2 0 0;");
        Due.is("hears()", x.hears(), 32);
        Due.is("loss()", x.loss(), 800);
        Due.is("hears()", x.hears(), 32);
        Due.is("0.75 * 8 + 8", x.loss(), 1400);
        x.stages(4, 0, 0, 0, 0);
        Due.is("errors behind all stages", x.hears(), 0);
        Due.is("0.75 * 14", x.loss(), 1050);
    }

    private static void lossIsAFloat() {
        Due.by("The loss is a float; 0.75f * loss + 0.25f * w; 100f * loss, cast to int");
        TwistedLight x = Due.told("d4 0 0 50 0;");
        float loss = 0f;
        for (int n = 1; n <= 100; n++) {
            Due.is("hears()", x.hears(), n <= 50 ? 1 : 0);
            loss = 0.75f * loss + 0.25f * (n <= 50 ? 1f : 0f);
            Due.is("loss() behind " + n, x.loss(), (int) (100f * loss));
            if (n == 50) {
                x.cuts();
            }
        }
        // 25, 43.75, 57.8..: the hundredths are cut off, not rounded.
        TwistedLight cut = Due.told("d4 0 0 50 0;");
        cut.hears();
        cut.hears();
        Due.is("43.75 is cut off", cut.loss(), 43);
        cut.hears();
        Due.is("57.8125 is cut off", cut.loss(), 57);
    }

    private static void lossIsRestored() {
        Due.by("The state that is restored consists of .. the loss and heard");
        TwistedLight x = Due.told("d4 0 0 50 0;");
        int[] losses = {0, 25, 43, 57, 68, 76, 82};
        for (int n = 1; n <= 6; n++) {
            x.hears();
            Due.is("loss() behind " + n, x.loss(), losses[n]);
        }
        for (int n = 5; n >= 0; n--) {
            Due.is("undo()", x.undo(), n);
            Due.is("loss() back to " + n, x.loss(), losses[n]);
            Due.is("heard", x.count(4), n);
        }
        Due.is("undo() of the text is lost", x.undo(), Due.STATE);
    }

    private static void undoOfNothing() {
        Due.by("undo: STATE if there is none to undo");
        TwistedLight x = new TwistedLight();
        Due.is("undo()", x.undo(), Due.STATE);
        x.marks(1, 1);
        Due.is("undo()", x.undo(), 0);
        Due.is("undo()", x.undo(), Due.STATE);
        x.marks(1, 1);
        x.keep(0);
        x.back(0);
        Due.is("undo() behind back()", x.undo(), Due.STATE);
        Due.is("what was kept stays", x.count(2), 5);
    }

    private static void upTo512Calls() {
        Due.by("An object is used for at most 512 calls after it has been made");
        TwistedLight x = new TwistedLight();
        for (int n = 1; n <= 509; n++) {
            x.hears();
        }
        Due.is("heard, the 510th call", x.count(4), 509);
        Due.is("undo(), the 511th call", x.undo(), 5);
        Due.is("heard, the 512th call", x.count(4), 508);
    }
}

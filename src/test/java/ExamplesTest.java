/** The five examples of the document, call by call. */
public final class ExamplesTest {
    public static void main(String[] args) {
        spreadAndTwist();
        slip();
        Due.is("the constants", TwistedLight.BAD * 1000 + TwistedLight.STATE * 100
                + TwistedLight.FULL * 10 + TwistedLight.NONE, -1239);
        faultAtNumber();
        faultAtLeadingZero();
        lateness();
        Due.end();
    }

    private static void spreadAndTwist() {
        TwistedLight x = new TwistedLight();
        Due.is("1 sends(0, 3, 1)", x.sends(0, 3, 1), 0);
        Due.is("1 adds(0, 5, 0, 0, 0)", x.adds(0, 5, 0, 0, 0), 1);
        Due.is("1 at(0, 4, 1)", x.at(0, 4, 1), 14);
        Due.is("1 count(3)", x.count(3), 1);
        Due.is("1 stages(0, 5, 0, 0, 0)", x.stages(0, 5, 0, 0, 0), 1);
        Due.is("1 count(3)", x.count(3), 0);
        Due.is("1 adds(1, 1, 2, 3, 5)", x.adds(1, 1, 2, 3, 5), 2);
        Due.is("1 wrong(0)", x.wrong(0), 31);
        Due.is("1 taps(0, 3, 0)", x.taps(0, 3, 0), 92);
        Due.is("1 learns(0, 3)", x.learns(0, 3), 2);
        Due.is("1 order(-1)", x.order(-1), 0);
        Due.is("1 orders()", x.orders(), -2);
        Due.is("1 stage(0, 0)", x.stage(0, 0), 0);
        Due.is("1 spreads(0)", x.spreads(0), 0);
        Due.is("1 hears()", x.hears(), 0);
        Due.is("1 loss()", x.loss(), 0);
    }

    private static void slip() {
        TwistedLight x = new TwistedLight();
        Due.is("2 adds(2, 5, 1, 0, 0)", x.adds(2, 5, 1, 0, 0), 1);
        Due.is("2 at(1, 5, 3)", x.at(1, 5, 3), 1);
        Due.is("2 lag(5)", x.lag(5), 3);
        Due.is("2 stages(4, 0, 0, 0, 0)", x.stages(4, 0, 0, 0, 0), 1);
        Due.is("2 count(3)", x.count(3), 6);
        Due.is("2 at(0, 8, 2)", x.at(0, 8, 2), 1);
        Due.is("2 sees(0, 15, 0)", x.sees(0, 15, 0), 1);
        Due.is("2 fits(0)", x.fits(0), 39);
        Due.is("2 fits(1)", x.fits(1), 1);
        Due.is("2 drops(0)", x.drops(0), 0);
        Due.is("2 sees(1, 0, 1)", x.sees(1, 0, 1), 2);
        Due.is("2 fits(0)", x.fits(0), 0);
        Due.is("2 forget()", x.forget(), 2);
        Due.is("2 undo()", x.undo(), 2);
        Due.is("2 undo()", x.undo(), 1);
        Due.is("2 count(7)", x.count(7), 1);
    }

    private static void faultAtNumber() {
        TwistedLight x = new TwistedLight();
        Due.type(x, "x12;m7;d3");
        Due.is("3 block()", x.block(), -11);
        Due.type(x, " 2 0 0");
        Due.is("3 count(6)", x.count(6), 15);
    }

    private static void faultAtLeadingZero() {
        TwistedLight x = new TwistedLight();
        Due.type(x, "x3;y01;m");
        Due.is("4 block()", x.block(), -14);
        Due.is("4 type(59)", x.type(59), 9);
        Due.is("4 block()", x.block(), -14);
        Due.is("4 count(2)", x.count(2), 4);
        Due.is("4 at(1, 1, 0)", x.at(1, 1, 0), 0);
        Due.is("4 skew()", x.skew(), 0);
        Due.is("4 undo()", x.undo(), -2);
    }

    private static void lateness() {
        TwistedLight x = new TwistedLight();
        Due.is("5 adds(3, 4, 0, 0, 0)", x.adds(3, 4, 0, 0, 0), 1);
        Due.is("5 skew()", x.skew(), 0);
        Due.is("5 stages(3, 0, 0, 0, 0)", x.stages(3, 0, 0, 0, 0), 1);
        Due.is("5 adds(0, 22, 0, 0, 0)", x.adds(0, 22, 0, 0, 0), -1);
        Due.is("5 adds(1, 2, 4, 1, 2)", x.adds(1, 2, 4, 1, 2), -1);
        Due.is("5 adds(4, 1, 0, 0, 0)", x.adds(4, 1, 0, 0, 0), -1);
        Due.is("5 stages(2, 12, 0, 0, 0)", x.stages(2, 12, 0, 0, 0), 2);
        Due.is("5 count(3)", x.count(3), 0);
        Due.is("5 marks(0, 1)", x.marks(0, 1), -2);
        Due.is("5 marks(0, 0)", x.marks(0, 0), 3);
        Due.is("5 odds(3, 2, 0, 0)", x.odds(3, 2, 0, 0), 49);
        Due.is("5 odds(3, 2, 0, 1)", x.odds(3, 2, 0, 1), 100);
        Due.is("5 keep(1)", x.keep(1), 2);
        Due.is("5 back(0)", x.back(0), -2);
        Due.is("5 cuts()", x.cuts(), 0);
        Due.is("5 back(1)", x.back(1), 2);
    }
}

import java.math.BigInteger;

/** Promises 25 to 30: sees, forget, fits, odds, keep and back. */
public final class SlipTest {
    public static void main(String[] args) {
        sees();
        forget();
        fits();
        fitsBehindTheLine();
        oddsSmall();
        oddsAll();
        oddsRefused();
        keepAndBack();
        imagesRefused();
        Due.end();
    }

    private static void sees() {
        TwistedLight x = new TwistedLight();
        for (int n = 1; n <= 6; n++) {
            Due.is("sees the " + n + "th", x.sees(1, 15, 3), n);
        }
        Due.is("sees the 7th", x.sees(1, 15, 3), Due.FULL);
        Due.is("sees a wrong 7th", x.sees(2, 15, 3), Due.BAD);
        Due.is("observations", x.count(5), 6);
        Due.is("no act", x.count(7), 0);
        TwistedLight y = new TwistedLight();
        for (int row : Due.outside(0, 1)) {
            Due.is("sees of row " + row, y.sees(row, 0, 0), Due.BAD);
        }
        for (int place : Due.outside(0, 15)) {
            Due.is("sees of place " + place, y.sees(0, place, 0), Due.BAD);
        }
        for (int symbol : Due.outside(0, 3)) {
            Due.is("sees of symbol " + symbol, y.sees(0, 0, symbol), Due.BAD);
        }
        Due.is("no observations", y.count(5), 0);
    }

    private static void forget() {
        TwistedLight x = new TwistedLight();
        Due.is("forget() of nothing", x.forget(), 0);
        x.sees(0, 0, 1);
        x.sees(0, 0, 2);
        Due.is("fits(0) of what excludes itself", x.fits(0), 0);
        Due.is("forget()", x.forget(), 2);
        Due.is("forget() again", x.forget(), 0);
        Due.is("count(5)", x.count(5), 0);
        Due.is("fits(0) then", x.fits(0), 48);
        Due.is("no act", x.count(7), 0);
        Due.is("sees() from 1 on", x.sees(0, 0, 1), 1);
    }

    private static void fits() {
        TwistedLight x = new TwistedLight();
        Due.is("fits(0)", x.fits(0), 48);
        Due.is("fits(1)", x.fits(1), 1);
        x.sees(0, 9, 2);
        Due.is("slips by 2 up to place 9", x.fits(0), 10);
        Due.is("the first", x.fits(1), 2);
        x.sees(1, 8, 0);
        Due.is("from 9 alone", x.fits(0), 1);
        Due.is("4 * 9 + 2", x.fits(1), 38);
        x.sees(0, 7, 0);
        x.sees(0, 15, 2);
        Due.is("still", x.fits(0), 1);
        x.sees(0, 15, 1);
        Due.is("none", x.fits(0), 0);
        Due.is("none is first", x.fits(1), Due.NONE);
        for (int what : Due.outside(0, 1)) {
            Due.is("fits(" + what + ")", x.fits(what), Due.BAD);
        }
        TwistedLight y = new TwistedLight();
        y.sees(1, 3, 0);
        Due.is("slips behind place 3", y.fits(0), 36);
        Due.is("the first of them", y.fits(1), 17);
    }

    /** The slip comes behind all deeds of a full line, and before the stages. */
    private static void fitsBehindTheLine() {
        TwistedLight x = Due.told("y0 0 0 1;d3 2 0 0 0;");
        x.sees(1, 5, 2);
        x.sees(1, 4, 0);
        // What is sent at 3 is at 5 in the air: 1 turned by 1.
        Due.is("late, then slip", x.fits(0), 1);
        Due.is("4 * 5 + 1", x.fits(1), 21);
        x.stages(2, 1, 0, 0, 0);
        Due.is("early by 1", x.fits(0), 0);
        x.forget();
        x.sees(1, 4, 2);
        x.sees(1, 3, 0);
        Due.is("slip, then early", x.fits(1), 21);
        Due.is("one alone", x.fits(0), 1);
        x.drops(0);
        x.forget();
        for (int n = 0; n < 5; n++) {
            x.adds(4, 0, 0, 1, 0);
        }
        x.sees(0, 0, 1);
        Due.is("behind six deeds: 6 turned by 1 is 35", x.fits(0), 1);
        Due.is("from 0 by 1", x.fits(1), 1);
        TwistedLight mended = new TwistedLight();
        mended.stages(4, 0, 0, 0, 0);
        mended.sees(0, 6, 3);
        Due.is("mended up to place 6", mended.fits(0), 2);
        Due.is("4 * 5 + 3", mended.fits(1), 23);
    }

    private static void odds(int x, int n, int k, int numerator, int denominator) {
        TwistedLight light = new TwistedLight();
        String call = "odds(" + x + ", " + n + ", " + k + ", ";
        Due.is(call + "0)", light.odds(x, n, k, 0), numerator);
        Due.is(call + "1)", light.odds(x, n, k, 1), denominator);
    }

    private static void oddsSmall() {
        odds(3, 2, 0, 49, 100);
        odds(3, 2, 1, 91, 100);
        odds(3, 2, 2, 1, 1);
        odds(3, 2, 8, 1, 1);
        odds(5, 8, 0, 1, 256);
        odds(5, 8, 4, 163, 256);
        odds(0, 8, 0, 1, 1);
        odds(10, 8, 7, 0, 1);
        odds(10, 8, 8, 1, 1);
        odds(10, 0, 0, 1, 1);
        odds(0, 0, 0, 1, 1);
        odds(1, 8, 0, 43046721, 100000000);
        odds(9, 8, 0, 1, 100000000);
        odds(9, 8, 7, 56953279, 100000000);
        odds(2, 3, 1, 112, 125);
    }

    /** Each row of right and wrong symbols alone, all of them together. */
    private static void oddsAll() {
        for (int x = 0; x <= 10; x++) {
            for (int n = 0; n <= 8; n++) {
                for (int k = 0; k <= 8; k++) {
                    BigInteger part = BigInteger.ZERO;
                    for (int wrongs = 0; wrongs < 1 << n; wrongs++) {
                        int count = Integer.bitCount(wrongs);
                        if (count <= k) {
                            part = part.add(BigInteger.valueOf(x).pow(count)
                                    .multiply(BigInteger.valueOf(10 - x).pow(n - count)));
                        }
                    }
                    BigInteger whole = BigInteger.TEN.pow(n);
                    BigInteger divisor = part.gcd(whole);
                    odds(x, n, k, part.divide(divisor).intValueExact(), whole.divide(divisor).intValueExact());
                }
            }
        }
    }

    private static void oddsRefused() {
        TwistedLight x = new TwistedLight();
        for (int wrong : Due.outside(0, 10)) {
            Due.is("odds(" + wrong + ", 1, 1, 0)", x.odds(wrong, 1, 1, 0), Due.BAD);
        }
        for (int wrong : Due.outside(0, 8)) {
            Due.is("odds(1, " + wrong + ", 1, 0)", x.odds(1, wrong, 1, 0), Due.BAD);
            Due.is("odds(1, 1, " + wrong + ", 1)", x.odds(1, 1, wrong, 1), Due.BAD);
        }
        for (int wrong : Due.outside(0, 1)) {
            Due.is("odds(1, 1, 1, " + wrong + ")", x.odds(1, 1, 1, wrong), Due.BAD);
        }
    }

    private static void keepAndBack() {
        TwistedLight x = Due.told("x1;m3;d2 0 1 0 0;");
        x.stages(2, 5, 0, 0, 0);
        x.hears();
        int loss = x.loss();
        Due.is("keep(0)", x.keep(0), 1);
        Due.is("keep is no act", x.count(7), 3);
        x.sends(0, 0, 2);
        x.marks(4, 1);
        x.adds(3, 1, 0, 0, 0);
        x.stages(3, 0, 0, 0, 0);
        x.hears();
        x.sees(0, 0, 0);
        Due.type(x, "x3");
        Due.is("keep(1)", x.keep(1), 2);
        Due.is("back(0)", x.back(0), 1);
        Due.is("sent", x.at(0, 0, 0), 1);
        Due.is("marked", x.count(2), 1);
        Due.is("lag(4)", x.lag(4), 15);
        Due.is("deeds", x.count(0), 1);
        Due.is("stages", x.count(1), 1);
        Due.is("stage(0, 1)", x.stage(0, 1), 5);
        Due.is("loss", x.loss(), loss);
        Due.is("heard", x.count(4), 1);
        Due.is("observations stay", x.count(5), 1);
        Due.is("the text stays", x.count(6), 2);
        Due.is("no act can be undone", x.count(7), 0);
        Due.is("undo()", x.undo(), Due.STATE);
        x.sends(0, 0, 0);
        Due.is("an act behind back()", x.count(7), 1);
        Due.is("the image stays", x.back(0), 1);
        Due.is("sent as in the image", x.at(0, 0, 0), 1);
        Due.is("back(1)", x.back(1), 2);
        Due.is("sent as in image 1", x.at(0, 0, 0), 2);
        Due.is("heard as in image 1", x.count(4), 2);
        Due.is("keep(0) anew", x.keep(0), 2);
        x.drops(0);
        Due.is("back(0) to what it has now", x.back(0), 2);
        Due.is("sent as in image 0 now", x.at(0, 0, 0), 2);
    }

    private static void imagesRefused() {
        TwistedLight x = new TwistedLight();
        Due.is("back(1) of what was not saved", x.back(1), Due.STATE);
        x.sends(0, 0, 1);
        for (int image : Due.outside(0, 1)) {
            Due.is("keep(" + image + ")", x.keep(image), Due.BAD);
            Due.is("back(" + image + ")", x.back(image), Due.BAD);
        }
        Due.is("keep(1)", x.keep(1), 0);
        Due.is("back(0) of what was not saved", x.back(0), Due.STATE);
        Due.is("the act can be undone yet", x.count(7), 1);
    }
}

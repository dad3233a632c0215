/** The boundary cases that the section "The text" and the promises 1 to 4 name, a test for each. */
public final class BoundaryTextTest {
    private static final String MARKS = "m0 1 2 3 4 5 6 7 8 9 10 11 12 13 14 15";
    private static final String SIXTEEN = "0 1 2 3 0 1 2 3 0 1 2 3 0 1 2 3";
    private static final String SIX_DEEDS = "d3 1 0 0 0;d3 2 0 0 0;d3 3 0 0 0;d3 4 0 0 0;d3 5 0 0 0;d3 6 0 0 0;";

    public static void main(String[] args) {
        codes();
        roomFor160();
        textOf160();
        emptyText();
        semicolonEndsAnItem();
        oneToSixteenSymbols();
        symbolsOutOfRange();
        zeroBehindThem();
        lastTimeCounts();
        zeroTo16Places();
        placesOutOfRange();
        placeToldTwice();
        marksAtMostOnce();
        fiveNumbers();
        deedsAtMostSixTimes();
        deedNumbersOutOfRange();
        spreadsThatAreNotPossible();
        twistsThatAreNotPossible();
        longestSequenceOfDigits();
        above99();
        leadingZero();
        spaces();
        everyCodeAtEveryPlace();
        firstFaultCounts();
        endWithinAnItem();
        clearAnswers();
        blockIsAnAct();
        blockKeepsTheRest();
        Due.end();
    }

    /** What block() answers to a text; a fault leaves all, the buffer too. */
    private static void told(String text, int due) {
        TwistedLight x = new TwistedLight();
        x.sends(1, 7, 3);
        x.sees(0, 3, 0);
        Due.type(x, text);
        Due.is("block() of '" + text + "'", x.block(), due);
        boolean fault = due <= -10;
        Due.is("characters behind '" + text + "'", x.count(6), fault ? text.length() : 0);
        Due.is("acts behind '" + text + "'", x.count(7), fault ? 1 : 2);
        Due.is("observations behind '" + text + "'", x.count(5), fault ? 1 : 0);
        if (fault) {
            Due.is("sent behind '" + text + "'", x.at(1, 7, 0), 3);
            Due.is("marked behind '" + text + "'", x.count(2), 4);
            Due.is("deeds behind '" + text + "'", x.count(0), 0);
        }
    }

    private static void fault(String text, int index) {
        told(text, -10 - index);
    }

    private static void codes() {
        Due.by("letter: its code, 0 to 255");
        TwistedLight x = new TwistedLight();
        Due.is("type(-1)", x.type(-1), Due.BAD);
        Due.is("type(256)", x.type(256), Due.BAD);
        Due.is("type(0)", x.type(0), 1);
        Due.is("type(255)", x.type(255), 2);
        Due.is("type(120 + 256)", x.type(120 + 256), Due.BAD);
        Due.is("type(120 - 256)", x.type(120 - 256), Due.BAD);
        Due.is("type(120 + 65536)", x.type(120 + 65536), Due.BAD);
        Due.is("characters", x.count(6), 2);
    }

    private static void roomFor160() {
        Due.by("The text buffer holds at most 160 characters");
        TwistedLight x = new TwistedLight();
        for (int n = 1; n <= 160; n++) {
            Due.is("the " + n + "th", x.type(n + 90), n);
        }
        Due.is("the 161st", x.type(32), Due.FULL);
        Due.is("the 161st again", x.type(32), Due.FULL);
        Due.is("characters", x.count(6), 160);
        Due.is("clear()", x.clear(), 160);
        Due.is("there is room again", x.type(32), 1);
    }

    private static void textOf160() {
        Due.by("The text buffer holds at most 160 characters");
        told(" ".repeat(160), 0);
        told("x0;".repeat(53) + " ", 53);
        told("x0;".repeat(53) + ";", -169);
        told("x0;".repeat(53) + "x", -170);
        told(" ".repeat(159) + "9", -169);
        told("x0;" + " ".repeat(156) + "m", -170);
        told(" ".repeat(158) + "m;", 1);
        told("x" + " ".repeat(157) + "3;", 1);
        told("x" + " ".repeat(157) + "33", -168);
        told("x" + "1".repeat(159), -11);
        TwistedLight x = new TwistedLight();
        Due.type(x, "y" + " ".repeat(157) + "2;");
        Due.is("type('x') behind 160", x.type('x'), Due.FULL);
        Due.is("block()", x.block(), 1);
        Due.is("the last number is read", x.at(1, 0, 0), 2);
        Due.is("the buffer is empty then", x.count(6), 0);
        Due.is("type('x')", x.type('x'), 1);
    }

    private static void emptyText() {
        Due.by("a sequence of items (possibly empty)");
        told("", 0);
        told(" ", 0);
        TwistedLight x = new TwistedLight();
        x.sends(0, 0, 1);
        x.marks(0, 0);
        x.adds(3, 1, 0, 0, 0);
        Due.is("block() of nothing", x.block(), 0);
        Due.is("what is sent", x.at(0, 0, 0), 0);
        Due.is("marks", x.count(2), 4);
        Due.is("lag(0)", x.lag(0), 0);
        Due.is("deeds", x.count(0), 0);
        Due.is("it is an act", x.count(7), 4);
    }

    private static void semicolonEndsAnItem() {
        Due.by("items, each of which ends with a semicolon");
        told("x0;", 1);
        fault("x0", 2);
        fault(";", 0);
        fault("x0;;", 3);
        fault("x0 y0;", 3);
        fault("x0m;", 2);
        fault("mx0;", 1);
        fault("d3 1 0 0 0x0;", 10);
    }

    private static void oneToSixteenSymbols() {
        for (String row : new String[] {"x", "y"}) {
            Due.by(row + " and 1 to 16 symbols");
            fault(row + ";", 1);
            fault(row + "  ;", 3);
            told(row + "3;", 1);
            told(row + SIXTEEN + ";", 1);
            fault(row + SIXTEEN + " 0;", 33);
            fault(row + SIXTEEN + " 4;", 33);
            fault(row + SIXTEEN + "   0", 35);
            TwistedLight x = Due.told(row + SIXTEEN + ";");
            for (int place = 0; place < 16; place++) {
                Due.is("at place " + place, x.at(row.equals("x") ? 0 : 1, place, 0), place % 4);
                Due.is("in the other row", x.at(row.equals("x") ? 1 : 0, place, 0), 0);
            }
        }
    }

    private static void symbolsOutOfRange() {
        Due.by("a number that is out of its range (four symbols, 0 to 3)");
        for (String row : new String[] {"x", "y"}) {
            for (int symbol = 0; symbol <= 99; symbol++) {
                told(row + symbol + ";", symbol <= 3 ? 1 : -11);
            }
            fault(row + "0 1 2 3 4;", 9);
        }
    }

    private static void zeroBehindThem() {
        Due.by("from place 0 on; 0 at all places behind them");
        TwistedLight x = Due.told("x" + SIXTEEN + ";y" + SIXTEEN + ";");
        Due.type(x, "x1 1;y2;");
        Due.is("block()", x.block(), 2);
        for (int place = 0; place < 16; place++) {
            Due.is("row 0 at " + place, x.at(0, place, 0), place < 2 ? 1 : 0);
            Due.is("row 1 at " + place, x.at(1, place, 0), place < 1 ? 2 : 0);
        }
    }

    private static void lastTimeCounts() {
        Due.by("If a row is told more than once, the last time counts");
        TwistedLight x = Due.told("x3 3 3;y2 2 2;x1;y0 1;x2 2;");
        int[] row0 = {2, 2, 0, 0};
        int[] row1 = {0, 1, 0, 0};
        for (int place = 0; place < 4; place++) {
            Due.is("row 0 at " + place, x.at(0, place, 0), row0[place]);
            Due.is("row 1 at " + place, x.at(1, place, 0), row1[place]);
        }
        TwistedLight longer = Due.told("x1;x" + SIXTEEN + ";");
        Due.is("row 0 at 15", longer.at(0, 15, 0), 3);
        Due.is("row 0 at 0", longer.at(0, 0, 0), 0);
    }

    private static void zeroTo16Places() {
        Due.by("m and 0 to 16 different places");
        told("m;", 1);
        told("m ;", 1);
        told(MARKS + ";", 1);
        fault(MARKS + " 0;", 39);
        fault(MARKS + " 15;", 39);
        fault(MARKS + " 16;", 39);
        Due.is("no place is marked", Due.told("m;").count(2), 0);
        Due.is("all are marked", Due.told(MARKS + ";").count(2), 16);
        for (int place = 0; place < 16; place++) {
            TwistedLight x = Due.told("m" + place + ";");
            Due.is("one place is marked", x.count(2), 1);
            Due.is("it is " + place, x.lag(place), 0);
        }
    }

    private static void placesOutOfRange() {
        Due.by("a number that is out of its range (16 places, 0 to 15)");
        for (int place = 0; place <= 99; place++) {
            told("m" + place + ";", place <= 15 ? 1 : -11);
        }
        fault("m15 16;", 4);
    }

    private static void placeToldTwice() {
        Due.by("also a place that is told twice");
        for (int place = 0; place < 16; place++) {
            fault("m" + place + "   " + place + ";", place < 10 ? 5 : 6);
        }
        fault("m0 1 2 0;", 7);
        fault("m4 4", 3);
        // 0, 4, 8 and 12 are marked before, and may be told once.
        told("m0 4 8 12;", 1);
        told("m12 8 4 0;", 1);
    }

    private static void marksAtMostOnce() {
        Due.by("a second m");
        fault("m;m;", 2);
        fault("m;m", 2);
        fault("m1;x1;y1;m", 9);
        fault("m1;d3 1 0 0 0;  m2;", 16);
        TwistedLight x = Due.told("m1;");
        Due.type(x, "m2;");
        Due.is("another text may tell m", x.block(), 1);
        Due.is("lag(2)", x.lag(2), 0);
    }

    private static void fiveNumbers() {
        Due.by("d and five numbers K A B C D");
        fault("d;", 1);
        fault("d3;", 2);
        fault("d3 1;", 4);
        fault("d3 1 0;", 6);
        fault("d3 1 0 0;", 8);
        told("d3 1 0 0 0;", 1);
        fault("d3 1 0 0 0 0;", 11);
        fault("d3 1 0 0 0 9", 11);
        TwistedLight x = Due.told("d1 2 3 4 5;");
        for (int what = 0; what < 5; what++) {
            Due.is("deed(0, " + what + ")", x.deed(0, what), what + 1);
        }
    }

    private static void deedsAtMostSixTimes() {
        Due.by("At most 6 times (a seventh d)");
        told(SIX_DEEDS, 6);
        fault(SIX_DEEDS + "d", 66);
        fault(SIX_DEEDS + "d3 7 0 0 0;", 66);
        fault(SIX_DEEDS + "x1;  d3 7 0 0 0;", 71);
        told(SIX_DEEDS + "x1;y1;m1;", 9);
        TwistedLight x = Due.told(SIX_DEEDS);
        for (int k = 0; k < 6; k++) {
            Due.is("deed(" + k + ", 1)", x.deed(k, 1), k + 1);
        }
        Due.type(x, "d3 9 0 0 0;");
        Due.is("the line before does not count", x.block(), 1);
        Due.is("deeds", x.count(0), 1);
        Due.is("deed(0, 1)", x.deed(0, 1), 9);
        TwistedLight full = new TwistedLight();
        for (int k = 0; k < 6; k++) {
            full.adds(3, 1, 0, 0, 0);
        }
        Due.type(full, SIX_DEEDS);
        Due.is("nor do deeds that were added", full.block(), 6);
    }

    /** Each number of a deed from 0 to 99, the others as they are usual. */
    private static void deedNumbersOutOfRange() {
        Due.by("a number that is out of its range, given what comes before it in its item");
        int[][] usual = {{2, 5, 1, 0, 0}, {3, 5, 0, 0, 0}, {4, 1, 5, 7, 0}};
        int[][] least = {{0, 0, 1, 0, 0}, {0, 1, 0, 0, 0}, {0, 0, 0, 1, 0}};
        int[][] most = {{4, 15, 3, 0, 0}, {4, 15, 0, 0, 0}, {4, 1, 15, 96, 0}};
        for (int k = 0; k < usual.length; k++) {
            for (int index = 1; index <= 4; index++) {
                for (int number = 0; number <= 99; number++) {
                    boolean possible = number >= least[k][index] && number <= most[k][index];
                    deed(usual[k], index, number, possible);
                }
            }
        }
        for (int kind = 0; kind <= 99; kind++) {
            // The text ends within the item, unless there is no such kind.
            fault("d" + kind, kind <= 4 ? 2 : 1);
        }
    }

    private static void deed(int[] usual, int index, int number, boolean possible) {
        StringBuilder text = new StringBuilder("d");
        int start = 0;
        for (int k = 0; k < 5; k++) {
            text.append(k == 0 ? "" : " ");
            start = k == index ? text.length() : start;
            text.append(k == index ? number : usual[k]);
        }
        told(text + ";", possible ? 1 : -10 - start);
    }

    private static void spreadsThatAreNotPossible() {
        Due.by("an A that is not possible for a spread");
        int[] usual = {0, 2, 0, 0, 0};
        for (int a = 0; a <= 99; a++) {
            long power = 1;
            for (int k = 0; k < 16; k++) {
                power = power * a % 97;
            }
            deed(usual, 1, a, a >= 1 && a <= 96 && power != 1);
        }
        for (int index = 2; index <= 4; index++) {
            for (int number = 0; number <= 99; number++) {
                deed(usual, index, number, number == 0);
            }
        }
        fault("d0  22", 4);
        // 22 is possible as an A of other kinds.
        told("d1 22 0 0 1;", 1);
    }

    private static void twistsThatAreNotPossible() {
        Due.by("a D that is not possible for a twist");
        int[][] twists = {{1, 0, 0}, {0, 1, 1}, {2, 3, 5}, {96, 96, 96}, {10, 1, 3}, {0, 0, 0}, {0, 0, 7}, {0, 5, 0}};
        for (int[] t : twists) {
            for (int d = 0; d <= 99; d++) {
                boolean possible = d <= 96 && Math.floorMod(t[0] * d - t[1] * t[2], 97) != 0;
                deed(new int[] {1, t[0], t[1], t[2], 0}, 4, d, possible);
            }
        }
        for (int number = 1; number <= 99; number++) {
            deed(new int[] {1, 1, 0, 0, 1}, 1, number, number <= 96);
            deed(new int[] {1, 1, 0, 0, 1}, 2, number, number <= 96);
            deed(new int[] {1, 1, 0, 0, 1}, 3, number, number <= 96);
        }
    }

    private static void longestSequenceOfDigits() {
        Due.by("A number is the longest possible sequence of digits");
        fault("x11;", 1);
        fault("x1 23;", 3);
        told("m15;", 1);
        Due.is("15 is one place", Due.told("m15;").count(2), 1);
        Due.is("1 5 are two places", Due.told("m1 5;").count(2), 2);
        fault("m155;", 1);
        fault("d31 0 0 0;", 1);
        told("d4 1 15 96 0;", 1);
    }

    private static void above99() {
        Due.by("a number above 99");
        fault("x100;", 1);
        fault("m1 100;", 3);
        fault("d1 100 0 0 1;", 3);
        fault("d1 1 0 0 101;", 9);
        fault("x" + (1L << 32) + ";", 1);
        fault("m" + ((1L << 32) + 1) + ";", 1);
        fault("d" + "9".repeat(40) + " ", 1);
        fault("m1" + "0".repeat(20) + ";", 1);
    }

    private static void leadingZero() {
        Due.by("with more than one digit and a leading 0");
        told("x0;", 1);
        fault("x00;", 1);
        fault("x01;", 1);
        fault("y1 02;", 3);
        told("m0;", 1);
        fault("m00;", 1);
        fault("m1 09;", 3);
        fault("m012;", 1);
        fault("d03 1 0 0 0;", 1);
        fault("d3 01 0 0 0;", 3);
        fault("d3 1 00 0 0;", 5);
        told("m10;", 1);
    }

    private static void spaces() {
        Due.by("Spaces may stand before, between and behind tokens, in any number; needed only between two numbers");
        told("x1 2;y3;m4 5;d2 0 1 0 0;", 4);
        told("   x   1   2   ;   y   3   ;   m   4   5   ;   d   2   0   1   0   0   ;   ", 4);
        told(" x1;", 1);
        told("x 1;", 1);
        told("x1 ;", 1);
        told("x1; ", 1);
        fault("x1\t2;", 2);
        fault("x1\n;", 2);
        fault("\r", 0);
        fault("x1" + (char) 160 + ";", 2);
        Due.is("the numbers are the same", Due.told(" m  4   15 ;  ").lag(5), 10);
    }

    /** Behind each beginning, each of the 256 codes; the text that goes on is within an item, mostly. */
    private static void everyCodeAtEveryPlace() {
        Due.by("or any other character");
        for (int code = 0; code <= 255; code++) {
            char letter = (char) code;
            boolean digit = letter >= '0' && letter <= '9';
            int number = digit ? letter - '0' : -1;
            boolean starts = letter == 'x' || letter == 'y' || letter == 'm' || letter == 'd';
            goesOn("", letter, letter == ' ' ? 0 : starts ? -11 : -10);
            goesOn("m;", letter, letter == ' ' ? 1 : starts && letter != 'm' ? -13 : -12);
            goesOn("x", letter, letter == ' ' || number >= 0 && number <= 3 ? -12 : -11);
            goesOn("x1", letter, letter == ' ' ? -13 : letter == ';' ? 1 : digit ? -11 : -12);
            goesOn("m", letter, letter == ' ' || digit ? -12 : letter == ';' ? 1 : -11);
            goesOn("m1", letter, letter == ' ' || number >= 0 && number <= 5 ? -13 : letter == ';' ? 1
                    : digit ? -11 : -12);
            goesOn("d", letter, letter == ' ' || number >= 0 && number <= 4 ? -12 : -11);
            goesOn("d3 1 0 0 0", letter, letter == ' ' ? -21 : letter == ';' ? 1 : digit ? -19 : -20);
            goesOn(SIX_DEEDS, letter, letter == ' ' ? 6 : starts && letter != 'd' ? -77 : -76);
        }
    }

    private static void goesOn(String beginning, char letter, int due) {
        TwistedLight x = new TwistedLight();
        Due.type(x, beginning + letter);
        Due.is("block() of '" + beginning + "' and the code " + (int) letter, x.block(), due);
    }

    private static void firstFaultCounts() {
        Due.by("the index of the first character of the first token that is not allowed");
        fault("x4 5;", 1);
        fault("x  12  ;", 3);
        fault("x1;y4;m16;", 4);
        fault("z", 0);
        fault("  x1;  z", 7);
        fault("x1 12 y", 3);
        fault("m1 1 16;", 3);
    }

    private static void endWithinAnItem() {
        Due.by("or the number of characters if the text ends within an item");
        for (String text : new String[] {"x", "y", "m", "d", "x1", "x1 ", "x " + SIXTEEN, "m1", MARKS, "d3", "d3 1",
            "d3 1 0", "d3 1 0 0", "d3 1 0 0 0", "x1;m", "x1;m   ", SIX_DEEDS + "m"}) {
            fault(text, text.length());
        }
    }

    private static void clearAnswers() {
        Due.by("clear: Returns how many characters it had");
        TwistedLight x = new TwistedLight();
        Due.is("clear() of an empty buffer", x.clear(), 0);
        Due.type(x, "x");
        Due.is("clear()", x.clear(), 1);
        Due.is("clear() again", x.clear(), 0);
        Due.is("block() then", x.block(), 0);
        Due.type(x, "x4;");
        Due.is("a fault", x.block(), -11);
        Due.is("clear() of a text with a fault", x.clear(), 3);
        Due.is("no act but block()", x.count(7), 1);
    }

    private static void blockIsAnAct() {
        Due.by("This is an act (undoing it does not bring back the observations and the text)");
        TwistedLight x = Due.told("x1 2;y3;m7 8;d3 2 0 0 0;d4 1 2 3 0;");
        x.sees(0, 0, 1);
        Due.type(x, "y1;m;");
        Due.is("block()", x.block(), 2);
        Due.type(x, "x");
        x.sees(1, 1, 1);
        x.sees(1, 2, 1);
        Due.is("undo()", x.undo(), 1);
        Due.is("row 0", x.at(0, 0, 0) * 10 + x.at(0, 1, 0), 12);
        Due.is("row 1", x.at(1, 0, 0), 3);
        Due.is("marked", x.count(2), 2);
        Due.is("lag(7)", x.lag(7), 0);
        Due.is("deeds", x.count(0), 2);
        Due.is("deed(1, 3)", x.deed(1, 3), 3);
        Due.is("observations since then stay", x.count(5), 2);
        Due.is("the text since then stays", x.count(6), 1);
    }

    private static void blockKeepsTheRest() {
        Due.by("The chain, the loss, heard and the images stay");
        TwistedLight x = Due.told("d2 0 2 0 0;x1;");
        x.stages(2, 9, 0, 0, 0);
        x.keep(0);
        Due.is("hears()", x.hears(), 32);
        x.keep(1);
        Due.type(x, "m3;");
        Due.is("block()", x.block(), 1);
        Due.is("stages", x.count(1), 1);
        Due.is("stage(0, 1)", x.stage(0, 1), 9);
        Due.is("loss()", x.loss(), 800);
        Due.is("heard", x.count(4), 1);
        Due.is("back(0)", x.back(0), 1);
        Due.is("heard in image 0", x.count(4), 0);
        Due.is("sent in image 0", x.at(0, 0, 0), 1);
        Due.is("back(1)", x.back(1), 1);
        Due.is("heard in image 1", x.count(4), 1);
        Due.is("deeds in image 1", x.count(0), 1);
    }
}

/** Promises 1 to 4: a new object, type, clear and block. */
public final class TextTest {
    public static void main(String[] args) {
        newObject();
        type();
        clear();
        textsWithoutFault();
        textsWithFault();
        faultAtTheEnd();
        whatBlockChanges();
        whatAFaultLeaves();
        undoneBlock();
        ranges();
        Due.end();
    }

    private static void newObject() {
        TwistedLight x = new TwistedLight();
        for (int place = 0; place < 16; place++) {
            Due.is("new at(0, " + place + ", 0)", x.at(0, place, 0), 0);
            Due.is("new at(1, " + place + ", 0)", x.at(1, place, 0), 0);
            Due.is("new at(0, " + place + ", 1)", x.at(0, place, 1), 1);
            Due.is("new at(1, " + place + ", 2)", x.at(1, place, 2), 1);
            Due.is("new lag(" + place + ")", x.lag(place), (16 - place) % 4);
        }
        int[] counts = {0, 0, 4, 0, 0, 0, 0, 0};
        for (int what = 0; what < 8; what++) {
            Due.is("new count(" + what + ")", x.count(what), counts[what]);
        }
        Due.is("new deed(0, 0)", x.deed(0, 0), Due.BAD);
        Due.is("new stage(0, 0)", x.stage(0, 0), Due.BAD);
        Due.is("new loss()", x.loss(), 0);
        Due.is("new forget()", x.forget(), 0);
        Due.is("new clear()", x.clear(), 0);
        Due.is("new undo()", x.undo(), Due.STATE);
        Due.is("new back(0)", x.back(0), Due.STATE);
        Due.is("new back(1)", x.back(1), Due.STATE);
    }

    private static void type() {
        TwistedLight x = new TwistedLight();
        Due.is("type(0)", x.type(0), 1);
        Due.is("type(255)", x.type(255), 2);
        for (int letter : Due.outside(0, 255)) {
            Due.is("type(" + letter + ")", x.type(letter), Due.BAD);
        }
        Due.is("count(6) behind wrong letters", x.count(6), 2);
        for (int n = 3; n <= 160; n++) {
            Due.is("type the " + n + "th", x.type(';'), n);
        }
        Due.is("type the 161st", x.type('x'), Due.FULL);
        Due.is("type(256) into a full buffer", x.type(256), Due.BAD);
        Due.is("type(-1) into a full buffer", x.type(-1), Due.BAD);
        Due.is("count(6) when full", x.count(6), 160);
        Due.is("typing is no act", x.count(7), 0);
    }

    private static void clear() {
        TwistedLight x = new TwistedLight();
        Due.type(x, "z 9");
        Due.is("clear()", x.clear(), 3);
        Due.is("clear() again", x.clear(), 0);
        Due.is("count(6) behind clear()", x.count(6), 0);
        Due.type(x, "x1;");
        Due.is("block() behind clear()", x.block(), 1);
        Due.is("at(0, 0, 0)", x.at(0, 0, 0), 1);
        Due.is("block() empties the buffer", x.clear(), 0);
    }

    private static void text(String text, int due) {
        TwistedLight x = new TwistedLight();
        Due.type(x, text);
        Due.is("block() of '" + text + "'", x.block(), due);
        Due.is("buffer behind '" + text + "'", x.count(6), due >= 0 ? 0 : text.length());
        Due.is("acts behind '" + text + "'", x.count(7), due >= 0 ? 1 : 0);
    }

    private static void textsWithoutFault() {
        text("", 0);
        text("    ", 0);
        text("m;", 1);
        text(" m ; ", 1);
        text("x0;", 1);
        text("x 0 ;y 3 3;", 2);
        text("x0;x1;y2;x3;y0;", 5);
        text("x0 1 2 3 0 1 2 3 0 1 2 3 0 1 2 3;", 1);
        text("m0 1 2 3 4 5 6 7 8 9 10 11 12 13 14 15;", 1);
        text("d1 0 1 1 0;d3 15 0 0 0;d2 15 3 0 0;d4 1 15 96 0;d0 95 0 0 0;d4 0 0 1 0;", 6);
        text("d  1 96 96 1 96  ;  x 3", -33);
        text("d0 2 0 0 0;m5 ;x0", -27);
    }

    private static void textsWithFault() {
        text("1", -10);
        text(";", -10);
        text("x1;;", -13);
        text("z;", -10);
        text("X1;", -10);
        text(" \t", -11);
        text("x1;" + (char) 233, -13);
        text("x;", -11);
        text("y ;", -12);
        text("x4;", -11);
        text("x12;", -11);
        text("x00;", -11);
        text("x1 03;", -13);
        text("x1000000000000000000000;", -11);
        text("x4294967296;", -11);
        text("x1,2;", -12);
        text("x1y2;", -12);
        text("x0 0 0 0 0 0 0 0 0 0 0 0 0 0 0 0 0;", -43);
        text("m16;", -11);
        text("m4 4;", -13);
        text("m4 04;", -13);
        text("m100;", -11);
        text("m;m;", -12);
        text("m1;x0;m2;", -16);
        text("d5 0 0 0 0;", -11);
        text("d0;", -12);
        text("d0 2 0 0;", -18);
        text("d0 2 0 0 0 0;", -21);
        text("d0 0 0 0 0;", -13);
        text("d0 97 0 0 0;", -13);
        text("d0 1 0 0 0;", -13);
        text("d0 22 0 0 0;", -13);
        text("d0 2 1 0 0;", -15);
        text("d0 2 0 1 0;", -17);
        text("d0 2 0 0 1;", -19);
        text("d1 0 0 0 0;", -19);
        text("d1 2 4 3 6;", -19);
        text("d1 97 0 0 1;", -13);
        text("d1 1 97 0 1;", -15);
        text("d1 1 0 97 1;", -17);
        text("d1 1 0 0 97;", -19);
        text("d2 16 1 0 0;", -13);
        text("d2 0 0 0 0;", -15);
        text("d2 0 4 0 0;", -15);
        text("d2 0 1 1 0;", -17);
        text("d2 0 1 0 1;", -19);
        text("d3 0 0 0 0;", -13);
        text("d3 16 0 0 0;", -13);
        text("d3 1 1 0 0;", -15);
        text("d4 2 0 1 0;", -13);
        text("d4 1 16 1 0;", -15);
        text("d4 1 0 0 0;", -17);
        text("d4 1 0 97 0;", -17);
        text("d4 1 0 1 1;", -19);
        text("d3 1 0 0 0;d3 1 0 0 0;d3 1 0 0 0;d3 1 0 0 0;d3 1 0 0 0;d3 1 0 0 0;d3 1 0 0 0;", -76);
        text("d3 1 0 0 0;d3 1 0 0 0;d3 1 0 0 0;d3 1 0 0 0;d3 1 0 0 0;d3 1 0 0 0;m;d", -78);
    }

    private static void faultAtTheEnd() {
        text("x", -11);
        text("m", -11);
        text("x1", -12);
        text("x1 ", -13);
        text("x1;y", -14);
        text("d0 2 0 0 0", -20);
        text("x1" + " ".repeat(158), -170);
        text("x1;" + " ".repeat(157), 1);
        text(" ".repeat(157) + "x1;", 1);
        text("x1 ".repeat(1) + " ".repeat(156) + ";", 1);
    }

    private static void whatBlockChanges() {
        TwistedLight x = new TwistedLight();
        x.sends(0, 9, 3);
        x.sends(1, 2, 2);
        x.marks(1, 1);
        x.adds(3, 7, 0, 0, 0);
        x.stages(2, 7, 0, 0, 0);
        x.keep(1);
        x.hears();
        x.sees(0, 0, 0);
        Due.type(x, "x3 2 1;y0 3;y 1 2;m15;d2 4 1 0 0;d4 1 2 3 0;");
        Due.is("block()", x.block(), 6);
        int[] row0 = {3, 2, 1};
        int[] row1 = {1, 2};
        for (int place = 0; place < 16; place++) {
            Due.is("row 0 at " + place, x.at(0, place, 0), place < row0.length ? row0[place] : 0);
            Due.is("row 1 at " + place, x.at(1, place, 0), place < row1.length ? row1[place] : 0);
            Due.is("lag(" + place + ")", x.lag(place), 15 - place);
        }
        Due.is("deeds", x.count(0), 2);
        Due.is("deed(0, 1)", x.deed(0, 1), 4);
        Due.is("deed(1, 3)", x.deed(1, 3), 3);
        Due.is("stages", x.count(1), 1);
        Due.is("heard", x.count(4), 1);
        Due.is("observations", x.count(5), 0);
        Due.is("characters", x.count(6), 0);
        Due.is("acts: sends, sends, marks, adds, stages, hears, block", x.count(7), 6);
        Due.type(x, "x3 2 1 3;y1 2 3;y 3;x1 2;");
        Due.is("block() of rows told twice", x.block(), 4);
        int[] last0 = {1, 2, 0, 0, 0};
        int[] last1 = {3, 0, 0, 0, 0};
        for (int place = 0; place < 5; place++) {
            Due.is("row 0 told last at " + place, x.at(0, place, 0), last0[place]);
            Due.is("row 1 told last at " + place, x.at(1, place, 0), last1[place]);
        }
        Due.type(x, "y2;");
        Due.is("block() of y alone", x.block(), 1);
        Due.is("row 0 is 0 if it is not told", x.at(0, 0, 0), 0);
        Due.is("row 1", x.at(1, 0, 0), 2);
        Due.is("row 1 behind what is told", x.at(1, 1, 0), 0);
        Due.is("usual marks", x.count(2), 4);
        Due.is("lag(1)", x.lag(1), 3);
        Due.is("no deeds", x.count(0), 0);
        Due.is("back(1)", x.back(1), 1);
        Due.is("the image stays", x.at(0, 9, 0), 3);
    }

    private static void whatAFaultLeaves() {
        TwistedLight x = new TwistedLight();
        x.sends(0, 9, 3);
        x.marks(1, 1);
        x.adds(3, 7, 0, 0, 0);
        x.sees(0, 0, 0);
        Due.type(x, "x3;y2;m;d2 4 1 0 0;d9");
        Due.is("block() with a fault", x.block(), -30);
        Due.is("row 0", x.at(0, 9, 0), 3);
        Due.is("row 0 at 0", x.at(0, 0, 0), 0);
        Due.is("row 1 at 0", x.at(1, 0, 0), 0);
        Due.is("marks", x.count(2), 5);
        Due.is("deeds", x.count(0), 1);
        Due.is("deed(0, 0)", x.deed(0, 0), 3);
        Due.is("observations", x.count(5), 1);
        Due.is("characters", x.count(6), 21);
        Due.is("acts", x.count(7), 3);
        Due.is("block() again", x.block(), -30);
    }

    private static void undoneBlock() {
        TwistedLight x = Due.told("x1;m3;d3 2 0 0 0;");
        x.sees(1, 1, 1);
        Due.type(x, "y1;");
        Due.is("block()", x.block(), 1);
        Due.is("undo()", x.undo(), 1);
        Due.is("row 0", x.at(0, 0, 0), 1);
        Due.is("row 1", x.at(1, 0, 0), 0);
        Due.is("marks", x.count(2), 1);
        Due.is("deeds", x.count(0), 1);
        Due.is("observations are not brought back", x.count(5), 0);
        Due.is("nor is the text", x.count(6), 0);
        Due.is("undo() to the new state", x.undo(), 0);
        Due.is("usual marks", x.count(2), 4);
        Due.is("no deeds", x.count(0), 0);
    }

    /** A deed that a text tells and the same deed that is added are possible alike. */
    private static void ranges() {
        int[] numbers = {0, 1, 2, 15, 16, 22, 96, 97, 99};
        for (int kind = 0; kind <= 5; kind++) {
            for (int index = 1; index <= 4; index++) {
                for (int number : numbers) {
                    int[] deed = {0, 0, 0, 0, 0};
                    deed[0] = kind;
                    int[] usual = usualDeed(kind);
                    System.arraycopy(usual, 0, deed, 1, 4);
                    deed[index] = number;
                    sameBothWays(deed);
                }
            }
        }
    }

    private static int[] usualDeed(int kind) {
        int[][] usual = {{2, 0, 0, 0}, {1, 2, 3, 4}, {3, 2, 0, 0}, {5, 0, 0, 0}, {1, 2, 3, 0}, {0, 0, 0, 0}};
        return usual[kind];
    }

    private static void sameBothWays(int[] deed) {
        TwistedLight added = new TwistedLight();
        int answer = added.adds(deed[0], deed[1], deed[2], deed[3], deed[4]);
        TwistedLight told = new TwistedLight();
        String text = "d " + deed[0] + " " + deed[1] + " " + deed[2] + " " + deed[3] + " " + deed[4] + ";";
        Due.type(told, text);
        Due.is("block() of '" + text + "' like adds()", told.block() > 0 ? 1 : -1, answer);
    }
}

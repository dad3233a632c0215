import java.util.ArrayList;
import java.util.List;
import java.util.function.Consumer;
import java.util.function.ToIntFunction;

/**
 * "A call that returns an error code changes nothing", for each method and each of its codes, and "If several of them
 * apply, the first one in this order is returned". Each refused call is made in several scenes, and all that the face
 * tells of the object, what is undone and the images too, is compared with an object without this call.
 */
public final class RefusedTest {
    private static final int BAD = Due.BAD, STATE = Due.STATE, FULL = Due.FULL, NONE = Due.NONE;

    private static final class Call {
        final String name;
        final ToIntFunction<TwistedLight> made;
        final int due;

        Call(String name, int due, ToIntFunction<TwistedLight> made) {
            this.name = name;
            this.due = due;
            this.made = made;
        }
    }

    private static List<Call> calls = new ArrayList<>();

    public static void main(String[] args) {
        scenesAreWhatTheySay();
        inScene("a new object", x -> { }, RefusedTest::refusedWhenNew);
        inScene("some of everything", RefusedTest::someOfEverything, RefusedTest::refusedWithSome);
        inScene("all is full", RefusedTest::allFull, RefusedTest::refusedWhenFull);
        inScene("all is full, but for taps", RefusedTest::fullWithoutTaps, RefusedTest::refusedWithoutTaps);
        inScene("a text with a fault", RefusedTest::faultyText, RefusedTest::refusedText);
        Due.end();
    }

    private static void inScene(String scene, Consumer<TwistedLight> told, Runnable refused) {
        calls = new ArrayList<>();
        badInAnyScene();
        refused.run();
        String before = Readout.whole(() -> made(told, x -> 0));
        for (Call call : calls) {
            Due.by(scene);
            Due.is(call.name, call.made.applyAsInt(made(told, x -> 0)), call.due);
            Due.by(scene + ", then " + call.name);
            Due.is("all that is told", Readout.whole(() -> made(told, call.made)), before);
        }
    }

    /** Deeds, stages, marked places, errors, heard, observations, characters and acts to undo. */
    private static void scenesAreWhatTheySay() {
        counts("some of everything", RefusedTest::someOfEverything, 2, 2, 3, 10, 1, 2, 9, 4);
        counts("all is full", RefusedTest::allFull, 6, 4, 4, -1, 1, 6, 160, 6);
        counts("all is full, but for taps", RefusedTest::fullWithoutTaps, 0, 4, 4, 0, 0, 0, 0, 0);
        counts("a text with a fault", RefusedTest::faultyText, 2, 2, 3, 10, 1, 2, 40, 4);
    }

    private static void counts(String scene, Consumer<TwistedLight> told, int... due) {
        TwistedLight x = made(told, made -> 0);
        for (int what = 0; what < due.length; what++) {
            int count = x.count(what);
            Due.is(scene + " count(" + what + ")", count, due[what] == -1 ? count : due[what]);
        }
    }

    private static TwistedLight made(Consumer<TwistedLight> told, ToIntFunction<TwistedLight> call) {
        TwistedLight x = new TwistedLight();
        told.accept(x);
        call.applyAsInt(x);
        return x;
    }

    private static void due(int due, String name, ToIntFunction<TwistedLight> made) {
        calls.add(new Call(name, due, made));
    }

    // ---- the scenes

    private static void someOfEverything(TwistedLight x) {
        Due.type(x, "x1 2 3;y0 2;m0 2 9;d2 4 1 0 0;d3 1 0 0 0;");
        x.block();
        x.stages(2, 1, 0, 0, 0);
        x.stages(4, 0, 0, 0, 0);
        x.keep(1);
        x.hears();
        x.sends(1, 15, 3);
        x.undo();
        x.sees(0, 5, 1);
        x.sees(1, 3, 0);
        Due.type(x, "x2 ; d0 2");
    }

    private static void allFull(TwistedLight x) {
        x.sends(0, 15, 3);
        x.sends(1, 1, 2);
        x.adds(0, 2, 0, 0, 0);
        x.adds(1, 2, 5, 1, 3);
        x.adds(2, 3, 2, 0, 0);
        x.keep(0);
        x.adds(3, 15, 0, 0, 0);
        x.adds(4, 0, 15, 96, 0);
        x.adds(4, 1, 15, 1, 0);
        x.hears();
        x.stages(2, 15, 0, 0, 0);
        x.stages(0, 2, 0, 0, 0);
        x.stages(1, 2, 5, 1, 3);
        x.keep(1);
        x.stages(4, 0, 0, 0, 0);
        x.orders();
        for (int place = 1; place <= 6; place++) {
            x.sees(place % 2, place, x.at(place % 2, place, 3));
        }
        Due.type(x, "y1;m3 4;" + "x 2 2 ;".repeat(21) + "     ");
    }

    /** Nothing is sent but 0, so that no two places have taps; the chain is full, nothing can be undone. */
    private static void fullWithoutTaps(TwistedLight x) {
        for (int by = 1; by <= 4; by++) {
            x.stages(2, by, 0, 0, 0);
        }
        x.keep(0);
        x.back(0);
    }

    private static void faultyText(TwistedLight x) {
        someOfEverything(x);
        x.clear();
        Due.type(x, "x3;y2;m1 5;d4 0 0 9 0;d2 0 1 0 0;x1 1; m");
    }

    // ---- what is refused in each of them

    private static void badInAnyScene() {
        for (int letter : Due.outside(0, 255)) {
            due(BAD, "type(" + letter + ")", x -> x.type(letter));
        }
        for (int row : Due.outside(0, 1)) {
            due(BAD, "sends(" + row + ", 0, 1)", x -> x.sends(row, 0, 1));
            due(BAD, "at(" + row + ", 0, 0)", x -> x.at(row, 0, 0));
            due(BAD, "sees(" + row + ", 0, 0)", x -> x.sees(row, 0, 0));
            due(BAD, "marks(0, " + row + ")", x -> x.marks(0, row));
            due(BAD, "spreads(" + row + ")", x -> x.spreads(row));
            due(BAD, "fits(" + row + ")", x -> x.fits(row));
            due(BAD, "keep(" + row + ")", x -> x.keep(row));
            due(BAD, "back(" + row + ")", x -> x.back(row));
            due(BAD, "odds(3, 2, 0, " + row + ")", x -> x.odds(3, 2, 0, row));
        }
        for (int place : Due.outside(0, 15)) {
            due(BAD, "sends(0, " + place + ", 1)", x -> x.sends(0, place, 1));
            due(BAD, "sends(1, " + place + ", 0)", x -> x.sends(1, place, 0));
            due(BAD, "marks(" + place + ", 1)", x -> x.marks(place, 1));
            due(BAD, "marks(" + place + ", 0)", x -> x.marks(place, 0));
            due(BAD, "at(1, " + place + ", 1)", x -> x.at(1, place, 1));
            due(BAD, "learns(" + place + ", 1)", x -> x.learns(place, 1));
            due(BAD, "learns(1, " + place + ")", x -> x.learns(1, place));
            due(BAD, "taps(" + place + ", 1, 0)", x -> x.taps(place, 1, 0));
            due(BAD, "taps(1, " + place + ", 0)", x -> x.taps(1, place, 0));
            due(BAD, "lag(" + place + ")", x -> x.lag(place));
            due(BAD, "sees(0, " + place + ", 0)", x -> x.sees(0, place, 0));
        }
        for (int symbol : Due.outside(0, 3)) {
            due(BAD, "sends(0, 0, " + symbol + ")", x -> x.sends(0, 0, symbol));
            due(BAD, "sees(0, 0, " + symbol + ")", x -> x.sees(0, 0, symbol));
            due(BAD, "at(0, 0, " + symbol + ")", x -> x.at(0, 0, symbol));
            due(BAD, "taps(0, 1, " + symbol + ")", x -> x.taps(0, 1, symbol));
        }
        badNumbers();
        badSteps();
    }

    private static void badNumbers() {
        due(BAD, "learns(7, 7)", x -> x.learns(7, 7));
        due(BAD, "taps(7, 7, 0)", x -> x.taps(7, 7, 0));
        for (int what : Due.outside(0, 4)) {
            due(BAD, "deed(0, " + what + ")", x -> x.deed(0, what));
            due(BAD, "stage(0, " + what + ")", x -> x.stage(0, what));
        }
        for (int what : Due.outside(0, 7)) {
            due(BAD, "count(" + what + ")", x -> x.count(what));
        }
        for (int k : new int[] {-1, 6, Integer.MIN_VALUE, Integer.MAX_VALUE}) {
            due(BAD, "deed(" + k + ", 0)", x -> x.deed(k, 0));
            due(BAD, "stage(" + k + ", 0)", x -> x.stage(k, 0));
            due(BAD, "drops(" + k + ")", x -> x.drops(k));
            due(BAD, "wrong(" + k + ")", x -> x.wrong(k));
        }
        due(BAD, "order(-2)", x -> x.order(-2));
        due(BAD, "order(MIN)", x -> x.order(Integer.MIN_VALUE));
        for (int wrong : Due.outside(0, 10)) {
            due(BAD, "odds(" + wrong + ", 2, 0, 0)", x -> x.odds(wrong, 2, 0, 0));
        }
        for (int wrong : Due.outside(0, 8)) {
            due(BAD, "odds(3, " + wrong + ", 0, 0)", x -> x.odds(3, wrong, 0, 0));
            due(BAD, "odds(3, 2, " + wrong + ", 0)", x -> x.odds(3, 2, wrong, 0));
        }
    }

    private static void badSteps() {
        for (int kind : Due.outside(0, 4)) {
            due(BAD, "adds(" + kind + ", 0, 0, 0, 0)", x -> x.adds(kind, 0, 0, 0, 0));
            due(BAD, "stages(" + kind + ", 0, 0, 0, 0)", x -> x.stages(kind, 0, 0, 0, 0));
        }
        due(BAD, "adds(0, 22, 0, 0, 0)", x -> x.adds(0, 22, 0, 0, 0));
        due(BAD, "adds(0, 97, 0, 0, 0)", x -> x.adds(0, 97, 0, 0, 0));
        due(BAD, "adds(1, 2, 4, 1, 2)", x -> x.adds(1, 2, 4, 1, 2));
        due(BAD, "adds(2, 5, 4, 0, 0)", x -> x.adds(2, 5, 4, 0, 0));
        due(BAD, "adds(3, 16, 0, 0, 0)", x -> x.adds(3, 16, 0, 0, 0));
        due(BAD, "adds(4, 1, 15, 97, 0)", x -> x.adds(4, 1, 15, 97, 0));
        due(BAD, "adds(4, 1, 15, 96, 1)", x -> x.adds(4, 1, 15, 96, 1));
        due(BAD, "stages(0, 1, 0, 0, 0)", x -> x.stages(0, 1, 0, 0, 0));
        due(BAD, "stages(1, 0, 0, 0, 0)", x -> x.stages(1, 0, 0, 0, 0));
        due(BAD, "stages(2, 16, 0, 0, 0)", x -> x.stages(2, 16, 0, 0, 0));
        due(BAD, "stages(3, 1, 0, 0, 0)", x -> x.stages(3, 1, 0, 0, 0));
        due(BAD, "stages(4, 0, 0, 0, 1)", x -> x.stages(4, 0, 0, 0, 1));
    }

    private static void refusedWhenNew() {
        due(STATE, "sends(0, 0, 0)", x -> x.sends(0, 0, 0));
        due(STATE, "sends(1, 15, 0)", x -> x.sends(1, 15, 0));
        due(STATE, "marks(12, 1)", x -> x.marks(12, 1));
        due(STATE, "marks(15, 0)", x -> x.marks(15, 0));
        due(STATE, "cuts()", x -> x.cuts());
        due(STATE, "learns(0, 1)", x -> x.learns(0, 1));
        due(STATE, "orders()", x -> x.orders());
        due(STATE, "undo()", x -> x.undo());
        due(STATE, "back(0)", x -> x.back(0));
        due(STATE, "back(1)", x -> x.back(1));
        due(BAD, "drops(0)", x -> x.drops(0));
        due(BAD, "deed(0, 0)", x -> x.deed(0, 0));
        due(BAD, "stage(0, 0)", x -> x.stage(0, 0));
        due(BAD, "wrong(1)", x -> x.wrong(1));
        due(NONE, "order(0)", x -> x.order(0));
        due(NONE, "order(MAX)", x -> x.order(Integer.MAX_VALUE));
        due(NONE, "taps(0, 1, 0)", x -> x.taps(0, 1, 0));
    }

    private static void refusedWithSome() {
        due(STATE, "sends(0, 0, 1)", x -> x.sends(0, 0, 1));
        due(STATE, "sends(1, 1, 2)", x -> x.sends(1, 1, 2));
        due(STATE, "sends(1, 15, 0)", x -> x.sends(1, 15, 0));
        due(STATE, "marks(9, 1)", x -> x.marks(9, 1));
        due(STATE, "marks(4, 0)", x -> x.marks(4, 0));
        due(STATE, "back(0)", x -> x.back(0));
        due(STATE, "learns(5, 6)", x -> x.learns(5, 6));
        due(STATE, "orders()", x -> x.orders());
        due(NONE, "taps(5, 6, 3)", x -> x.taps(5, 6, 3));
        due(NONE, "order(2)", x -> x.order(2));
        due(BAD, "drops(2)", x -> x.drops(2));
        due(BAD, "wrong(3)", x -> x.wrong(3));
        due(BAD, "deed(2, 0)", x -> x.deed(2, 0));
        due(BAD, "stage(2, 4)", x -> x.stage(2, 4));
        due(-19, "block()", x -> x.block());
    }

    private static void refusedWhenFull() {
        due(FULL, "type(0)", x -> x.type(0));
        due(FULL, "type(255)", x -> x.type(255));
        for (int kind = 0; kind <= 4; kind++) {
            int[][] deeds = {{2, 0, 0, 0}, {1, 0, 0, 1}, {0, 1, 0, 0}, {1, 0, 0, 0}, {0, 0, 1, 0}};
            int[][] stages = {{2, 0, 0, 0}, {1, 0, 0, 1}, {1, 0, 0, 0}, {0, 0, 0, 0}, {0, 0, 0, 0}};
            int of = kind;
            int[] d = deeds[kind];
            int[] s = stages[kind];
            due(FULL, "adds(" + kind + ", ..)", x -> x.adds(of, d[0], d[1], d[2], d[3]));
            due(FULL, "stages(" + kind + ", ..)", x -> x.stages(of, s[0], s[1], s[2], s[3]));
        }
        due(FULL, "learns(1, 15)", x -> x.learns(1, 15));
        due(FULL, "sees(0, 0, 0)", x -> x.sees(0, 0, 0));
        due(FULL, "sees(1, 15, 3)", x -> x.sees(1, 15, 3));
        due(STATE, "orders()", x -> x.orders());
        due(NONE, "order(4)", x -> x.order(4));
        due(BAD, "drops(4)", x -> x.drops(4));
        due(BAD, "stage(4, 0)", x -> x.stage(4, 0));
        due(BAD, "wrong(5)", x -> x.wrong(5));
    }

    private static void refusedWithoutTaps() {
        due(STATE, "learns(0, 1)", x -> x.learns(0, 1));
        due(STATE, "learns(15, 0)", x -> x.learns(15, 0));
        due(NONE, "taps(0, 1, 2)", x -> x.taps(0, 1, 2));
        due(STATE, "orders()", x -> x.orders());
        due(STATE, "cuts()", x -> x.cuts());
        due(STATE, "undo()", x -> x.undo());
        due(STATE, "back(1)", x -> x.back(1));
        due(STATE, "sends(0, 0, 0)", x -> x.sends(0, 0, 0));
        due(FULL, "stages(3, ..)", x -> x.stages(3, 0, 0, 0, 0));
    }

    private static void refusedText() {
        due(-49, "block()", x -> x.block());
        due(-49, "block() twice", x -> Math.min(x.block(), x.block()));
    }
}

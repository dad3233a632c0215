import java.util.function.Supplier;

/** All that the face tells of an object, as one text: objects whose texts are the same are in the same state. */
final class Readout {
    private Readout() {
    }

    /** What can be asked without a change. An object answers 512 calls, so there is room for a few of these alone. */
    static String of(TwistedLight x) {
        StringBuilder all = new StringBuilder("sent ");
        for (int row = 0; row < 2; row++) {
            for (int place = 0; place < 16; place++) {
                all.append(x.at(row, place, 0));
            }
            all.append(' ');
        }
        all.append("lags ");
        for (int place = 0; place < 16; place++) {
            all.append(x.lag(place)).append(' ');
        }
        steps(all, x, true);
        steps(all, x, false);
        all.append("counts ");
        for (int what = 0; what < 8; what++) {
            all.append(x.count(what)).append(' ');
        }
        all.append("loss ").append(x.loss()).append(" fits ").append(x.fits(0)).append(' ').append(x.fits(1));
        return all.toString();
    }

    private static void steps(StringBuilder all, TwistedLight x, boolean deeds) {
        all.append(deeds ? "deeds " : "stages ");
        int size = x.count(deeds ? 0 : 1);
        for (int k = 0; k <= size; k++) {
            for (int what = 0; what < 5; what++) {
                all.append(deeds ? x.deed(k, what) : x.stage(k, what)).append(what == 4 ? "; " : " ");
            }
        }
    }

    /** Also what the acts that can be undone, the images, the observations and the text hold. */
    static String whole(Supplier<TwistedLight> made) {
        StringBuilder all = new StringBuilder(of(made.get()));
        TwistedLight undone = made.get();
        for (int n = 1; n <= 7; n++) {
            all.append("\n  undo ").append(undone.undo()).append(": ").append(of(undoneBy(made.get(), n)));
        }
        for (int image = 0; image < 2; image++) {
            TwistedLight x = made.get();
            all.append("\n  back ").append(x.back(image)).append(": ").append(of(x));
        }
        TwistedLight told = made.get();
        all.append("\n  block ").append(told.block()).append(": ").append(of(told));
        all.append("\n  clear ").append(made.get().clear());
        all.append("\n  seen ").append(seen(made.get()));
        return all.toString();
    }

    private static TwistedLight undoneBy(TwistedLight x, int acts) {
        for (int n = 0; n < acts; n++) {
            x.undo();
        }
        return x;
    }

    /** Without stages and with one number turned after the other, what fits tells the observations. */
    private static String seen(TwistedLight x) {
        StringBuilder all = new StringBuilder();
        while (x.count(1) > 0) {
            x.drops(0);
        }
        while (x.count(0) > 0) {
            x.cuts();
        }
        for (int row = 0; row < 2; row++) {
            for (int place = 0; place < 16; place++) {
                x.sends(row, place, (x.at(row, place, 0) + 1) % 4);
                all.append(x.fits(0)).append(' ').append(x.fits(1)).append(' ');
            }
        }
        return all.append("forget ").append(x.forget()).toString();
    }
}

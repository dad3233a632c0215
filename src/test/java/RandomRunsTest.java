/** Long runs of calls that a fixed row of numbers chooses, each answer compared with PlainLight. */
public final class RandomRunsTest {
    // Some steps are two or three calls, and an object answers 512 of them.
    private static final int RUNS = 200;
    private static final int STEPS = 420;

    private long seed;
    private final TwistedLight light = new TwistedLight();
    private final PlainLight plain = new PlainLight();
    private String told = "";

    private RandomRunsTest(long seed) {
        this.seed = seed * 7919 + 17;
    }

    public static void main(String[] args) {
        for (int run = 0; run < RUNS && !Due.anyWrong(); run++) {
            RandomRunsTest test = new RandomRunsTest(run);
            for (int call = 0; call < STEPS; call++) {
                test.call("run " + run + " call " + call + " ", run % 4);
            }
        }
        Due.end();
    }

    private int below(int bound) {
        seed = seed * 6364136223846793005L + 1442695040888963407L;
        return (int) Math.floorMod(seed >>> 33, (long) bound);
    }

    /** Mostly from least to most, now and then just outside. */
    private int around(int least, int most) {
        int dice = below(40);
        return dice == 0 ? least - 1 : dice == 1 ? most + 1 : least + below(most - least + 1);
    }

    private void call(String where, int temper) {
        int dice = below(100);
        if (told.length() > 0) {
            typeOne(where);
        } else if (dice < 6) {
            sends(where);
        } else if (dice < 11) {
            int place = around(0, 15);
            int is = around(0, 1);
            Due.is(where + "marks(" + place + ", " + is + ")", light.marks(place, is), plain.marks(place, is));
        } else if (dice < 22) {
            adds(where);
        } else if (dice < 25) {
            Due.is(where + "cuts()", light.cuts(), plain.cuts());
        } else if (dice < 36) {
            stages(where, temper);
        } else if (dice < 39) {
            int k = around(0, 3);
            Due.is(where + "drops(" + k + ")", light.drops(k), plain.drops(k));
        } else if (dice < 42) {
            learnsOrOrders(where);
        } else if (dice < 45) {
            Due.is(where + "hears()", light.hears(), plain.hears());
            Due.is(where + "loss()", light.loss(), plain.loss());
        } else if (dice < 48) {
            Due.is(where + "undo()", light.undo(), plain.undo());
        } else if (dice < 52) {
            images(where);
        } else if (dice < 57) {
            sightings(where);
        } else if (dice < 59) {
            told = someText();
        } else if (dice < 61) {
            Due.is(where + "block()", light.block(), plain.block());
        } else {
            ask(where);
        }
    }

    private void typeOne(String where) {
        char letter = told.charAt(0);
        told = told.substring(1);
        Due.is(where + "type(" + (int) letter + ")", light.type(letter), plain.type(letter));
        if (told.length() == 0) {
            Due.is(where + "block() of a text", light.block(), plain.block());
            if (below(3) > 0) {
                Due.is(where + "clear()", light.clear(), plain.clear());
            }
        }
    }

    private void sends(String where) {
        int row = around(0, 1);
        int place = around(0, 15);
        int symbol = around(0, 3);
        Due.is(where + "sends(" + row + ", " + place + ", " + symbol + ")",
                light.sends(row, place, symbol), plain.sends(row, place, symbol));
    }

    private int[] someDeed() {
        switch (around(0, 4)) {
            case 0: return new int[] {0, around(1, 96), 0, 0, below(40) / 39};
            case 1: return new int[] {1, around(0, 96), around(0, 96), around(0, 96), around(0, 96)};
            case 2: return new int[] {2, around(0, 15), around(1, 3), below(40) / 39, 0};
            case 3: return new int[] {3, around(1, 15), below(40) / 39, 0, 0};
            case 4: return new int[] {4, around(0, 1), around(0, 15), around(1, 96), 0};
            default: return new int[] {5, 1, 0, 0, 0};
        }
    }

    private void adds(String where) {
        int[] d = someDeed();
        Due.is(where + "adds(" + d[0] + ", " + d[1] + ", " + d[2] + ", " + d[3] + ", " + d[4] + ")",
                light.adds(d[0], d[1], d[2], d[3], d[4]), plain.adds(d[0], d[1], d[2], d[3], d[4]));
    }

    /** Half of the stages undo a deed of the line, so that few errors are left. */
    private void stages(String where, int temper) {
        int[] s = {around(0, 4), 0, 0, 0, 0};
        if (s[0] == 0) {
            s[1] = around(1, 96);
        } else if (s[0] == 1) {
            s = new int[] {1, below(97), below(97), below(97), around(0, 96)};
        } else if (s[0] == 2) {
            s[1] = around(1, 15);
        } else if (below(20) == 0) {
            s[1 + below(4)] = 1;
        }
        int size = plain.count(0);
        if (temper > 0 && size > 0 && below(2) == 0) {
            int k = below(size);
            int kind = plain.deed(k, 0);
            s[0] = kind == 3 ? 2 : kind == 2 ? 4 : kind;
            for (int what = 1; what < 5; what++) {
                s[what] = kind == 2 ? 0 : plain.deed(k, what);
            }
        }
        Due.is(where + "stages(" + s[0] + ", " + s[1] + ", " + s[2] + ", " + s[3] + ", " + s[4] + ")",
                light.stages(s[0], s[1], s[2], s[3], s[4]), plain.stages(s[0], s[1], s[2], s[3], s[4]));
    }

    private void learnsOrOrders(String where) {
        int i = around(0, 15);
        int j = around(0, 15);
        if (below(2) == 0) {
            Due.is(where + "learns(" + i + ", " + j + ")", light.learns(i, j), plain.learns(i, j));
        } else {
            Due.is(where + "orders()", light.orders(), plain.orders());
        }
    }

    private void images(String where) {
        int image = around(0, 1);
        if (below(2) == 0) {
            Due.is(where + "keep(" + image + ")", light.keep(image), plain.keep(image));
        } else {
            Due.is(where + "back(" + image + ")", light.back(image), plain.back(image));
        }
    }

    private void sightings(String where) {
        int row = around(0, 1);
        int place = around(0, 15);
        // Half of what is seen is what is received now, so that some slip fits.
        int symbol = below(2) == 0 ? around(0, 3) : Math.max(0, plain.at(row, place, 3));
        if (below(8) == 0) {
            Due.is(where + "forget()", light.forget(), plain.forget());
        } else {
            Due.is(where + "sees(" + row + ", " + place + ", " + symbol + ")",
                    light.sees(row, place, symbol), plain.sees(row, place, symbol));
        }
    }

    private void ask(String where) {
        int row = around(0, 1);
        int place = around(0, 15);
        int other = around(0, 15);
        int what = around(0, 3);
        int k = around(-1, 5);
        switch (below(12)) {
            case 0:
            case 1:
                Due.is(where + "at(" + row + ", " + place + ", " + what + ")",
                        light.at(row, place, what), plain.at(row, place, what));
                break;
            case 2:
                Due.is(where + "deed(" + k + ", " + what + ")", light.deed(k, what), plain.deed(k, what));
                break;
            case 3:
                Due.is(where + "stage(" + k + ", " + what + ")", light.stage(k, what), plain.stage(k, what));
                break;
            case 4:
                Due.is(where + "wrong(" + k + ")", light.wrong(k), plain.wrong(k));
                break;
            case 5:
                Due.is(where + "taps(" + place + ", " + other + ", " + what + ")",
                        light.taps(place, other, what), plain.taps(place, other, what));
                break;
            case 6:
                Due.is(where + "skew()", light.skew(), plain.skew());
                break;
            case 7:
                Due.is(where + "spreads(" + row + ")", light.spreads(row), plain.spreads(row));
                break;
            case 8:
                Due.is(where + "order(" + k + ")", light.order(k), plain.order(k));
                break;
            case 9:
                Due.is(where + "lag(" + place + ")", light.lag(place), plain.lag(place));
                break;
            case 10:
                Due.is(where + "fits(" + row + ")", light.fits(row), plain.fits(row));
                break;
            default:
                int count = around(0, 7);
                Due.is(where + "count(" + count + ")", light.count(count), plain.count(count));
        }
    }

    private String someText() {
        StringBuilder text = new StringBuilder();
        int items = 1 + below(5);
        for (int n = 0; n < items; n++) {
            text.append(someItem());
            text.append(below(30) == 0 ? "" : ";");
        }
        if (below(4) == 0 && text.length() > 0) {
            text.setCharAt(below(text.length()), " 0123456789xymd;z".charAt(below(17)));
        }
        return text.toString();
    }

    private String someItem() {
        StringBuilder item = new StringBuilder();
        switch (below(4)) {
            case 0:
                item.append(below(4) == 0 ? " x" : "x");
                appendNumbers(item, 1 + below(17), 3);
                break;
            case 1:
                item.append("y ");
                appendNumbers(item, 1 + below(12), 3);
                break;
            case 2:
                item.append('m');
                appendNumbers(item, below(4), 15);
                break;
            default:
                item.append('d');
                for (int number : someDeed()) {
                    item.append(' ').append(Math.max(0, number));
                }
        }
        return item.toString();
    }

    private void appendNumbers(StringBuilder item, int numbers, int most) {
        for (int n = 0; n < numbers; n++) {
            item.append(' ').append(below(60) == 0 ? most + 1 : below(most + 1));
        }
    }
}

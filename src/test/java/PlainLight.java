import java.math.BigInteger;
import java.util.ArrayDeque;
import java.util.ArrayList;
import java.util.Deque;
import java.util.List;

/**
 * The document once more, in the most literal form: what it describes as "the number for which" is
 * searched for among all numbers, so that this class shares no formula with TwistedLight.
 */
final class PlainLight {
    private static final int BAD = -1, STATE = -2, FULL = -3, NONE = -9;
    private static final int[] LIGHT = {1, 22, 96, 75};
    private static final int[] DECIDED = new int[97];

    static {
        for (int v = 0; v < 97; v++) {
            DECIDED[v] = Due.decided(v);
        }
    }

    private static final class World {
        int[][] sent = new int[2][16];
        boolean[] marked = new boolean[16];
        List<int[]> line = new ArrayList<>();
        List<int[]> chain = new ArrayList<>();
        float loss = 0;
        int heard = 0;

        World() {
            marked[0] = marked[4] = marked[8] = marked[12] = true;
        }

        World copy() {
            World w = new World();
            w.sent = copyOf(sent);
            w.marked = marked.clone();
            w.line = new ArrayList<>(line);
            w.chain = new ArrayList<>(chain);
            w.loss = loss;
            w.heard = heard;
            return w;
        }
    }

    private World now = new World();
    private final Deque<World> past = new ArrayDeque<>();
    private final World[] images = new World[2];
    private final StringBuilder text = new StringBuilder();
    private final List<int[]> seen = new ArrayList<>();

    private static int[][] copyOf(int[][] block) {
        return new int[][] {block[0].clone(), block[1].clone()};
    }

    private static int mod(int n) {
        return ((n % 97) + 97) % 97;
    }

    private static boolean in(int n, int least, int most) {
        return n >= least && n <= most;
    }

    private void act() {
        past.addLast(now.copy());
        if (past.size() > 6) {
            past.removeFirst();
        }
    }

    // ---- sending and receiving

    private static int[][] sent(World w) {
        int[][] block = new int[2][16];
        for (int row = 0; row < 2; row++) {
            for (int place = 0; place < 16; place++) {
                block[row][place] = LIGHT[w.sent[row][place]];
            }
        }
        return block;
    }

    private static int[][] air(World w) {
        int[][] block = sent(w);
        for (int[] deed : w.line) {
            block = deedOn(block, deed);
        }
        return block;
    }

    private static int[][] deedOn(int[][] old, int[] deed) {
        int[][] block = copyOf(old);
        for (int row = 0; row < 2; row++) {
            for (int place = 0; place < 16; place++) {
                int v = old[row][place];
                switch (deed[0]) {
                    case 0:
                        v = mod(v + deed[1] * old[row][(place + 15) % 16]);
                        break;
                    case 1:
                        v = mod(deed[1 + 2 * row] * old[0][place] + deed[2 + 2 * row] * old[1][place]);
                        break;
                    case 2:
                        v = place >= deed[1] ? mod(v * LIGHT[deed[2]]) : v;
                        break;
                    case 3:
                        v = row == 1 ? old[1][(place - deed[1] + 16) % 16] : v;
                        break;
                    default:
                        v = row == deed[1] && place == deed[2] ? mod(v + deed[3]) : v;
                }
                block[row][place] = v;
            }
        }
        return block;
    }

    private static int[][] received(World w, int stages) {
        return through(air(w), w, w.chain.subList(0, stages));
    }

    private static int[][] through(int[][] block, World w, List<int[]> chain) {
        for (int[] stage : chain) {
            block = stageOn(block, w, stage);
        }
        return block;
    }

    private static int[][] stageOn(int[][] old, World w, int[] stage) {
        switch (stage[0]) {
            case 0: return new int[][] {unspread(old[0], stage[1]), unspread(old[1], stage[1])};
            case 1: return untwist(old, stage);
            case 2: return early(old, stage[1]);
            case 3: return blind(old);
            default: return mended(old, w);
        }
    }

    /** Tries every number at place 0 and goes on from there. */
    private static int[] unspread(int[] row, int a) {
        for (int first = 0; first < 97; first++) {
            int[] x = new int[16];
            x[0] = first;
            for (int p = 1; p < 16; p++) {
                x[p] = mod(row[p] - a * x[p - 1]);
            }
            if (mod(x[0] + a * x[15]) == row[0]) {
                return x;
            }
        }
        throw new IllegalStateException();
    }

    private static int[][] untwist(int[][] old, int[] stage) {
        int[][] block = new int[2][16];
        int[] first = onlySolution(stage[1], stage[2], 1, stage[3], stage[4], 0);
        int[] second = onlySolution(stage[1], stage[2], 0, stage[3], stage[4], 1);
        for (int place = 0; place < 16; place++) {
            int u = old[0][place];
            int v = old[1][place];
            block[0][place] = mod(first[0] * u + second[0] * v);
            block[1][place] = mod(first[1] * u + second[1] * v);
        }
        return block;
    }

    /** The one pair p, q with a p + b q = r and c p + d q = s, or null if there is none or more than one. */
    private static int[] onlySolution(int a, int b, int r, int c, int d, int s) {
        int[] found = null;
        for (int p = 0; p < 97; p++) {
            for (int q = 0; q < 97; q++) {
                if ((a * p + b * q - r) % 97 == 0 && (c * p + d * q - s) % 97 == 0) {
                    if (found != null) {
                        return null;
                    }
                    found = new int[] {p, q};
                }
            }
        }
        return found;
    }

    private static int[][] early(int[][] old, int by) {
        int[][] block = copyOf(old);
        for (int place = 0; place < 16; place++) {
            block[1][place] = old[1][(place + by) % 16];
        }
        return block;
    }

    private static int[][] blind(int[][] old) {
        int best = 0;
        int most = -1;
        for (int g = 1; g <= 96; g++) {
            int lights = 0;
            for (int[] row : old) {
                for (int v : row) {
                    int number = v * g % 97;
                    if (number == 1 || number == 22 || number == 96 || number == 75) {
                        lights++;
                    }
                }
            }
            if (lights > most) {
                most = lights;
                best = g;
            }
        }
        int[][] block = copyOf(old);
        for (int[] row : block) {
            for (int place = 0; place < 16; place++) {
                row[place] = row[place] * best % 97;
            }
        }
        return block;
    }

    private static int[][] mended(int[][] old, World w) {
        int[][] block = copyOf(old);
        for (int m = 0; m < 16; m++) {
            if (!w.marked[m]) {
                continue;
            }
            int q = 0;
            int most = -1;
            for (int turn = 0; turn < 4; turn++) {
                int right = 0;
                for (int row = 0; row < 2; row++) {
                    right += DECIDED[old[row][m] * LIGHT[turn] % 97] == w.sent[row][m] ? 1 : 0;
                }
                if (right > most) {
                    most = right;
                    q = turn;
                }
            }
            int place = m;
            do {
                block[0][place] = old[0][place] * LIGHT[q] % 97;
                block[1][place] = old[1][place] * LIGHT[q] % 97;
                place = (place + 1) % 16;
            } while (!w.marked[place]);
        }
        return block;
    }

    private static int errors(int[][] block, World w, boolean marksAlone) {
        int errors = 0;
        for (int row = 0; row < 2; row++) {
            for (int place = 0; place < 16; place++) {
                if ((!marksAlone || w.marked[place]) && DECIDED[block[row][place]] != w.sent[row][place]) {
                    errors++;
                }
            }
        }
        return errors;
    }

    // ---- what is possible

    private static boolean canSpread(int a) {
        return in(a, 1, 96)
                && !BigInteger.valueOf(a).modPow(BigInteger.valueOf(16), BigInteger.valueOf(97)).equals(BigInteger.ONE);
    }

    private static boolean canTwist(int a, int b, int c, int d) {
        return in(a, 0, 96) && in(b, 0, 96) && in(c, 0, 96) && in(d, 0, 96) && (a * d - b * c) % 97 != 0;
    }

    private static boolean deedIsPossible(int kind, int a, int b, int c, int d) {
        switch (kind) {
            case 0: return canSpread(a) && b == 0 && c == 0 && d == 0;
            case 1: return canTwist(a, b, c, d);
            case 2: return in(a, 0, 15) && in(b, 1, 3) && c == 0 && d == 0;
            case 3: return in(a, 1, 15) && b == 0 && c == 0 && d == 0;
            case 4: return in(a, 0, 1) && in(b, 0, 15) && in(c, 1, 96) && d == 0;
            default: return false;
        }
    }

    private static boolean stageIsPossible(int kind, int a, int b, int c, int d) {
        switch (kind) {
            case 0:
            case 1: return deedIsPossible(kind, a, b, c, d);
            case 2: return in(a, 1, 15) && b == 0 && c == 0 && d == 0;
            case 3:
            case 4: return a == 0 && b == 0 && c == 0 && d == 0;
            default: return false;
        }
    }

    // ---- the text, from left to right by what may come next

    private final class Reading {
        final World told = new World();
        final String all = text.toString();
        int at = 0;
        int fault = -1;
        boolean marks = false;

        int read() {
            told.chain = new ArrayList<>(now.chain);
            told.loss = now.loss;
            told.heard = now.heard;
            int items = 0;
            for (spaces(); at < all.length() && fault < 0; spaces()) {
                readItem();
                items++;
            }
            return fault < 0 ? items : -10 - fault;
        }

        private void spaces() {
            while (at < all.length() && all.charAt(at) == ' ') {
                at++;
            }
        }

        private char next() {
            spaces();
            return at < all.length() ? all.charAt(at) : (char) 0xffff;
        }

        private void readItem() {
            char letter = next();
            if (letter == 'm' && marks || letter == 'd' && told.line.size() == 6 || "xymd".indexOf(letter) < 0) {
                fault = at;
                return;
            }
            at++;
            List<Integer> numbers = new ArrayList<>();
            while (Character.digit(next(), 10) >= 0 && next() < 128) {
                int start = at;
                while (at < all.length() && "0123456789".indexOf(all.charAt(at)) >= 0) {
                    at++;
                }
                String digits = all.substring(start, at);
                if (digits.length() > 2 || digits.length() == 2 && digits.charAt(0) == '0'
                        || !mayStand(letter, numbers, Integer.parseInt(digits))) {
                    fault = start;
                    return;
                }
                numbers.add(Integer.parseInt(digits));
            }
            boolean whole = letter == 'm' || letter == 'd' && numbers.size() == 5
                    || (letter == 'x' || letter == 'y') && !numbers.isEmpty();
            if (next() != ';' || !whole) {
                fault = at;
                return;
            }
            at++;
            take(letter, numbers);
        }

        private boolean mayStand(char letter, List<Integer> before, int number) {
            switch (letter) {
                case 'm': return number < 16 && !before.contains(number);
                case 'd': return mayStandInDeed(before, number);
                default: return before.size() < 16 && number < 4;
            }
        }

        /** A number may stand if some deed begins so; only a twist without any deed is told at its D. */
        private boolean mayStandInDeed(List<Integer> before, int number) {
            List<Integer> deed = new ArrayList<>(before);
            deed.add(number);
            if (deed.size() > 5) {
                return false;
            }
            if (deed.size() == 1) {
                return number <= 4;
            }
            if (deed.get(0) == 1 && deed.size() < 5) {
                return number <= 96;
            }
            int[][] fillers = {{2, 0, 0, 0}, {0, 0, 0, 0}, {0, 1, 0, 0}, {1, 0, 0, 0}, {0, 0, 1, 0}};
            int[] d = new int[5];
            for (int i = 0; i < 5; i++) {
                d[i] = i < deed.size() ? deed.get(i) : fillers[deed.get(0)][i - 1];
            }
            return deedIsPossible(d[0], d[1], d[2], d[3], d[4]);
        }

        private void take(char letter, List<Integer> numbers) {
            switch (letter) {
                case 'm':
                    marks = true;
                    for (int place = 0; place < 16; place++) {
                        told.marked[place] = numbers.contains(place);
                    }
                    break;
                case 'd':
                    told.line.add(numbers.stream().mapToInt(n -> n).toArray());
                    break;
                default:
                    int[] row = new int[16];
                    for (int i = 0; i < numbers.size(); i++) {
                        row[i] = numbers.get(i);
                    }
                    told.sent[letter - 'x'] = row;
            }
        }
    }

    // ---- the face

    int type(int letter) {
        if (!in(letter, 0, 255)) {
            return BAD;
        }
        if (text.length() == 160) {
            return FULL;
        }
        return text.append((char) letter).length();
    }

    int clear() {
        int before = text.length();
        text.setLength(0);
        return before;
    }

    int block() {
        Reading reading = new Reading();
        int items = reading.read();
        if (items >= 0) {
            act();
            now = reading.told;
            seen.clear();
            text.setLength(0);
        }
        return items;
    }

    int sends(int row, int place, int symbol) {
        if (!in(row, 0, 1) || !in(place, 0, 15) || !in(symbol, 0, 3)) {
            return BAD;
        }
        int before = now.sent[row][place];
        if (before == symbol) {
            return STATE;
        }
        act();
        now.sent[row][place] = symbol;
        return before;
    }

    int marks(int place, int is) {
        if (!in(place, 0, 15) || !in(is, 0, 1)) {
            return BAD;
        }
        if (now.marked[place] == (is == 1)) {
            return STATE;
        }
        act();
        now.marked[place] = is == 1;
        return count(2);
    }

    int adds(int kind, int a, int b, int c, int d) {
        if (!deedIsPossible(kind, a, b, c, d)) {
            return BAD;
        }
        if (now.line.size() == 6) {
            return FULL;
        }
        act();
        now.line.add(new int[] {kind, a, b, c, d});
        return now.line.size();
    }

    int cuts() {
        if (now.line.isEmpty()) {
            return STATE;
        }
        act();
        now.line.remove(now.line.size() - 1);
        return now.line.size();
    }

    int stages(int kind, int a, int b, int c, int d) {
        if (!stageIsPossible(kind, a, b, c, d)) {
            return BAD;
        }
        if (now.chain.size() == 4) {
            return FULL;
        }
        act();
        now.chain.add(new int[] {kind, a, b, c, d});
        return now.chain.size();
    }

    int drops(int k) {
        if (!in(k, 0, now.chain.size() - 1)) {
            return BAD;
        }
        act();
        now.chain.remove(k);
        return now.chain.size();
    }

    private int[] allTaps(int i, int j) {
        int[][] r = received(now, now.chain.size());
        int[][] s = sent(now);
        int[] ab = onlySolution(r[0][i], r[1][i], s[0][i], r[0][j], r[1][j], s[0][j]);
        int[] cd = onlySolution(r[0][i], r[1][i], s[1][i], r[0][j], r[1][j], s[1][j]);
        if (ab == null || cd == null || (ab[0] * cd[1] - ab[1] * cd[0]) % 97 == 0) {
            return null;
        }
        return new int[] {ab[0], ab[1], cd[0], cd[1]};
    }

    int learns(int i, int j) {
        if (!in(i, 0, 15) || !in(j, 0, 15) || i == j) {
            return BAD;
        }
        int[] t = allTaps(i, j);
        if (t == null) {
            return STATE;
        }
        if (now.chain.size() == 4) {
            return FULL;
        }
        int[] first = onlySolution(t[0], t[1], 1, t[2], t[3], 0);
        int[] second = onlySolution(t[0], t[1], 0, t[2], t[3], 1);
        return stages(1, first[0], second[0], first[1], second[1]);
    }

    private List<List<Integer>> allOrders(List<Integer> left) {
        List<List<Integer>> all = new ArrayList<>();
        if (left.isEmpty()) {
            all.add(new ArrayList<>());
        }
        for (Integer first : left) {
            List<Integer> rest = new ArrayList<>(left);
            rest.remove(first);
            for (List<Integer> behind : allOrders(rest)) {
                behind.add(0, first);
                all.add(behind);
            }
        }
        return all;
    }

    private int errorsIn(List<Integer> order) {
        List<int[]> chain = new ArrayList<>();
        for (int k : order) {
            chain.add(now.chain.get(k));
        }
        return errors(through(air(now), now, chain), now, false);
    }

    private List<Integer> present() {
        List<Integer> order = new ArrayList<>();
        for (int k = 0; k < now.chain.size(); k++) {
            order.add(k);
        }
        return order;
    }

    private List<Integer> best() {
        List<Integer> best = present();
        int least = 99;
        for (List<Integer> order : allOrders(present())) {
            int errors = errorsIn(order);
            if (errors < least) {
                least = errors;
                best = order;
            }
        }
        return best;
    }

    int orders() {
        List<Integer> best = best();
        if (best.equals(present())) {
            return STATE;
        }
        act();
        List<int[]> chain = new ArrayList<>();
        for (int k : best) {
            chain.add(now.chain.get(k));
        }
        now.chain = chain;
        return count(3);
    }

    int hears() {
        int w = count(3);
        act();
        now.heard++;
        now.loss = 0.75f * now.loss + 0.25f * w;
        return w;
    }

    int undo() {
        if (past.isEmpty()) {
            return STATE;
        }
        now = past.removeLast();
        return past.size();
    }

    int at(int row, int place, int what) {
        if (!in(row, 0, 1) || !in(place, 0, 15) || !in(what, 0, 3)) {
            return BAD;
        }
        int number = received(now, now.chain.size())[row][place];
        return new int[] {now.sent[row][place], air(now)[row][place], number, DECIDED[number]}[what];
    }

    int deed(int k, int what) {
        return in(k, 0, now.line.size() - 1) && in(what, 0, 4) ? now.line.get(k)[what] : BAD;
    }

    int stage(int k, int what) {
        return in(k, 0, now.chain.size() - 1) && in(what, 0, 4) ? now.chain.get(k)[what] : BAD;
    }

    int wrong(int n) {
        return in(n, 0, now.chain.size()) ? errors(received(now, n), now, false) : BAD;
    }

    int loss() {
        return (int) (100f * now.loss);
    }

    int taps(int i, int j, int what) {
        if (!in(i, 0, 15) || !in(j, 0, 15) || i == j || !in(what, 0, 3)) {
            return BAD;
        }
        int[] t = allTaps(i, j);
        return t == null ? NONE : t[what];
    }

    int skew() {
        int best = 0;
        int fewest = 99;
        for (int n = 0; n < 16; n++) {
            int errors = errors(early(received(now, now.chain.size()), n), now, true);
            if (errors < fewest) {
                fewest = errors;
                best = n;
            }
        }
        return best;
    }

    int spreads(int what) {
        if (!in(what, 0, 1)) {
            return BAD;
        }
        int[][] block = received(now, now.chain.size());
        List<Integer> fitting = new ArrayList<>();
        for (int a = 1; a <= 96; a++) {
            if (canSpread(a) && errors(stageOn(block, now, new int[] {0, a}), now, true) == 0) {
                fitting.add(a);
            }
        }
        return what == 0 ? fitting.size() : fitting.isEmpty() ? NONE : fitting.get(0);
    }

    int order(int k) {
        if (k < -1) {
            return BAD;
        }
        List<Integer> best = best();
        return k == -1 ? errorsIn(best) : k < best.size() ? best.get(k) : NONE;
    }

    int lag(int place) {
        if (!in(place, 0, 15)) {
            return BAD;
        }
        for (int n = 0; n < 16; n++) {
            if (now.marked[(place + n) % 16]) {
                return n;
            }
        }
        return 16;
    }

    int sees(int row, int place, int symbol) {
        if (!in(row, 0, 1) || !in(place, 0, 15) || !in(symbol, 0, 3)) {
            return BAD;
        }
        if (seen.size() == 6) {
            return FULL;
        }
        seen.add(new int[] {row, place, symbol});
        return seen.size();
    }

    int forget() {
        int before = seen.size();
        seen.clear();
        return before;
    }

    int fits(int what) {
        if (!in(what, 0, 1)) {
            return BAD;
        }
        List<Integer> fitting = new ArrayList<>();
        for (int a = 0; a < 16; a++) {
            for (int b = 1; b < 4; b++) {
                int[][] block = through(deedOn(air(now), new int[] {2, a, b, 0, 0}), now, now.chain);
                boolean allTrue = true;
                for (int[] s : seen) {
                    allTrue &= DECIDED[block[s[0]][s[1]]] == s[2];
                }
                if (allTrue) {
                    fitting.add(4 * a + b);
                }
            }
        }
        return what == 0 ? fitting.size() : fitting.isEmpty() ? NONE : fitting.get(0);
    }

    int keep(int image) {
        if (!in(image, 0, 1)) {
            return BAD;
        }
        images[image] = now.copy();
        return now.chain.size();
    }

    int back(int image) {
        if (!in(image, 0, 1)) {
            return BAD;
        }
        if (images[image] == null) {
            return STATE;
        }
        now = images[image].copy();
        past.clear();
        return now.chain.size();
    }

    int count(int what) {
        switch (what) {
            case 0: return now.line.size();
            case 1: return now.chain.size();
            case 2:
                int marked = 0;
                for (boolean is : now.marked) {
                    marked += is ? 1 : 0;
                }
                return marked;
            case 3: return wrong(now.chain.size());
            case 4: return now.heard;
            case 5: return seen.size();
            case 6: return text.length();
            case 7: return past.size();
            default: return BAD;
        }
    }
}

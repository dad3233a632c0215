import java.util.Arrays;

/** A coherent two-channel transmission over the field of 97 numbers, and its receiver. */
public final class TwistedLight {
    public static final int BAD = -1, STATE = -2, FULL = -3, NONE = -9;

    private static final int PRIME = 97;
    private static final int SYMBOLS = 4;
    private static final int ROWS = 2;
    private static final int PLACES = 16;
    private static final int SPOTS = ROWS * PLACES;
    private static final int MOST_DEEDS = 6;
    private static final int MOST_STAGES = 4;
    private static final int MOST_ORDERS = 24;
    private static final int MOST_UNDONE = 6;
    private static final int MOST_SEEN = 6;
    private static final int IMAGES = 2;

    // Every row that a call needs is made here once, as all calls share one room.
    private final State present = new State();
    private final State draft = new State();
    private final State[] images = new State[IMAGES];
    private final boolean[] saved = new boolean[IMAGES];
    private final History history = new History();
    private final Text text = new Text();
    private final Sightings sightings = new Sightings();
    private final Block received = new Block();
    private final Block trial = new Block();
    private final Arrangement arrangement = new Arrangement();
    private final int[] step = new int[Steps.WIDTH];
    private final Matrix learnt = new Matrix();
    private final Matrix lights = new Matrix();

    public TwistedLight() {
        for (int image = 0; image < IMAGES; image++) {
            images[image] = new State();
        }
    }

    // ---- what is told, what is sent

    public int type(int letter) {
        if (letter < 0 || letter > 255) {
            return BAD;
        }
        return text.append(letter) ? text.length : FULL;
    }

    public int clear() {
        int before = text.length;
        text.length = 0;
        return before;
    }

    public int block() {
        draft.takeFrom(present);
        int items = text.readInto(draft);
        if (items < 0) {
            return items;
        }
        history.remember(present);
        present.takeFrom(draft);
        text.length = 0;
        sightings.size = 0;
        return items;
    }

    public int sends(int row, int place, int symbol) {
        if (!isSpot(row, place) || !isSymbol(symbol)) {
            return BAD;
        }
        int before = present.sent[row * PLACES + place];
        if (before == symbol) {
            return STATE;
        }
        history.remember(present);
        present.sent[row * PLACES + place] = symbol;
        return before;
    }

    public int marks(int place, int is) {
        if (!isPlace(place) || is < 0 || is > 1) {
            return BAD;
        }
        if (present.isMarked(place) == (is == 1)) {
            return STATE;
        }
        history.remember(present);
        present.mark(place, is == 1);
        return Integer.bitCount(present.marked);
    }

    public int adds(int kind, int a, int b, int c, int d) {
        putStep(kind, a, b, c, d);
        if (!Steps.isPossible(Steps.DEED, step)) {
            return BAD;
        }
        return appendStep(present.line);
    }

    public int cuts() {
        int size = present.line.size;
        if (size == 0) {
            return STATE;
        }
        history.remember(present);
        present.line.remove(size - 1);
        return size - 1;
    }

    // ---- the chain

    public int stages(int kind, int a, int b, int c, int d) {
        putStep(kind, a, b, c, d);
        if (!Steps.isPossible(Steps.STAGE, step)) {
            return BAD;
        }
        return appendStep(present.chain);
    }

    public int drops(int k) {
        int size = present.chain.size;
        if (k < 0 || k >= size) {
            return BAD;
        }
        history.remember(present);
        present.chain.remove(k);
        return size - 1;
    }

    public int learns(int i, int j) {
        if (!isPair(i, j)) {
            return BAD;
        }
        if (!findTaps(i, j)) {
            return STATE;
        }
        learnt.invert();
        putStep(Steps.TWIST, learnt.a, learnt.b, learnt.c, learnt.d);
        return appendStep(present.chain);
    }

    public int orders() {
        int least = findBestOrder();
        if (arrangement.bestIsPresent()) {
            return STATE;
        }
        history.remember(present);
        draft.chain.takeFrom(present.chain);
        present.chain.arrange(draft.chain, arrangement.best);
        return least;
    }

    public int hears() {
        int errors = errorsAfter(present.chain.size);
        history.remember(present);
        present.heard++;
        present.loss = 0.75f * present.loss + 0.25f * (float) errors;
        return errors;
    }

    public int undo() {
        if (history.size == 0) {
            return STATE;
        }
        history.restore(present);
        return history.size;
    }

    // ---- asked

    public int at(int row, int place, int what) {
        if (!isSpot(row, place) || what < 0 || what > 3) {
            return BAD;
        }
        int spot = row * PLACES + place;
        if (what == 0) {
            return present.sent[spot];
        }
        received.receive(present, what == 1 ? 0 : present.chain.size);
        int number = received.numbers[spot];
        return what == 3 ? Field.decided(number) : number;
    }

    public int deed(int k, int what) {
        return present.line.numberOf(k, what);
    }

    public int stage(int k, int what) {
        return present.chain.numberOf(k, what);
    }

    public int wrong(int n) {
        if (n < 0 || n > present.chain.size) {
            return BAD;
        }
        return errorsAfter(n);
    }

    public int loss() {
        return (int) (100f * present.loss);
    }

    // ---- learnt

    public int taps(int i, int j, int what) {
        if (!isPair(i, j) || what < 0 || what > 3) {
            return BAD;
        }
        return findTaps(i, j) ? learnt.entry(what) : NONE;
    }

    public int skew() {
        received.receive(present, present.chain.size);
        int best = 0;
        int fewest = SPOTS + 1;
        for (int n = 0; n < PLACES; n++) {
            trial.takeFrom(received);
            trial.late(PLACES - n);
            int errors = trial.errorsAtMarks(present);
            if (errors < fewest) {
                fewest = errors;
                best = n;
            }
        }
        return best;
    }

    public int spreads(int what) {
        if (what < 0 || what > 1) {
            return BAD;
        }
        received.receive(present, present.chain.size);
        int found = 0;
        int first = NONE;
        for (int a = 1; a < PRIME; a++) {
            if (Field.power(a, PLACES) != 1 && unspreadFits(a)) {
                found++;
                first = first == NONE ? a : first;
            }
        }
        return what == 0 ? found : first;
    }

    public int order(int k) {
        if (k < -1) {
            return BAD;
        }
        if (k >= present.chain.size) {
            return NONE;
        }
        int least = findBestOrder();
        return k == -1 ? least : arrangement.best[k];
    }

    public int lag(int place) {
        if (!isPlace(place)) {
            return BAD;
        }
        int places = 0;
        while (places < PLACES && !present.isMarked((place + places) % PLACES)) {
            places++;
        }
        return places;
    }

    // ---- which slip

    public int sees(int row, int place, int symbol) {
        if (!isSpot(row, place) || !isSymbol(symbol)) {
            return BAD;
        }
        return sightings.append(row * PLACES + place, symbol) ? sightings.size : FULL;
    }

    public int forget() {
        int before = sightings.size;
        sightings.size = 0;
        return before;
    }

    public int fits(int what) {
        if (what < 0 || what > 1) {
            return BAD;
        }
        received.receive(present, 0);
        int found = 0;
        int first = NONE;
        for (int from = 0; from < PLACES; from++) {
            for (int by = 1; by < SYMBOLS; by++) {
                if (slipFits(from, by)) {
                    found++;
                    first = first == NONE ? 4 * from + by : first;
                }
            }
        }
        return what == 0 ? found : first;
    }

    public int odds(int x, int n, int k, int what) {
        if (x < 0 || x > 10 || n < 0 || n > 8 || k < 0 || k > 8 || what < 0 || what > 1) {
            return BAD;
        }
        int whole = Odds.power(10, n);
        int part = Odds.atMost(x, n, k);
        int divisor = Odds.commonDivisor(part, n);
        return (what == 0 ? part : whole) / Math.max(1, divisor);
    }

    // ---- images

    public int keep(int image) {
        if (image < 0 || image >= IMAGES) {
            return BAD;
        }
        images[image].takeFrom(present);
        saved[image] = true;
        return present.chain.size;
    }

    public int back(int image) {
        if (image < 0 || image >= IMAGES) {
            return BAD;
        }
        if (!saved[image]) {
            return STATE;
        }
        present.takeFrom(images[image]);
        history.size = 0;
        return present.chain.size;
    }

    public int count(int what) {
        switch (what) {
            case 0: return present.line.size;
            case 1: return present.chain.size;
            case 2: return Integer.bitCount(present.marked);
            case 3: return errorsAfter(present.chain.size);
            case 4: return present.heard;
            case 5: return sightings.size;
            case 6: return text.length;
            case 7: return history.size;
            default: return BAD;
        }
    }

    // ---- what the methods share

    private static boolean isPlace(int place) {
        return place >= 0 && place < PLACES;
    }

    private static boolean isSpot(int row, int place) {
        return row >= 0 && row < ROWS && isPlace(place);
    }

    private static boolean isSymbol(int symbol) {
        return symbol >= 0 && symbol < SYMBOLS;
    }

    private static boolean isPair(int i, int j) {
        return isPlace(i) && isPlace(j) && i != j;
    }

    private void putStep(int kind, int a, int b, int c, int d) {
        step[0] = kind;
        step[1] = a;
        step[2] = b;
        step[3] = c;
        step[4] = d;
    }

    private int appendStep(Steps steps) {
        if (steps.isFull()) {
            return FULL;
        }
        history.remember(present);
        steps.append(step);
        return steps.size;
    }

    private int errorsAfter(int stages) {
        received.receive(present, stages);
        return received.errors(present);
    }

    private boolean unspreadFits(int a) {
        trial.takeFrom(received);
        trial.unspread(a);
        return trial.errorsAtMarks(present) == 0;
    }

    /** Expects the air alone in the block that is received. */
    private boolean slipFits(int from, int by) {
        trial.takeFrom(received);
        trial.slip(from, by);
        for (int k = 0; k < present.chain.size; k++) {
            trial.passStage(present, k);
        }
        return sightings.areTrueOf(trial);
    }

    /** Leaves the taps of two places in their matrix; false if they do not exist. */
    private boolean findTaps(int i, int j) {
        received.receive(present, present.chain.size);
        int[] numbers = received.numbers;
        int[] sent = present.sent;
        learnt.put(numbers[i], numbers[j], numbers[PLACES + i], numbers[PLACES + j]);
        lights.put(Field.light(sent[i]), Field.light(sent[j]),
                Field.light(sent[PLACES + i]), Field.light(sent[PLACES + j]));
        // Without an inverse of what is received there are no taps, or more than one choice of them.
        if (learnt.determinant() == 0 || lights.determinant() == 0) {
            return false;
        }
        learnt.invert();
        learnt.multiplyFromLeft(lights);
        return true;
    }

    /** Leaves the best order in the arrangement and answers its errors. */
    private int findBestOrder() {
        received.receive(present, 0);
        int least = SPOTS + 1;
        arrangement.start(present.chain.size);
        for (int tried = 0; tried < MOST_ORDERS; tried++) {
            int errors = errorsInOrder(arrangement.current);
            if (errors < least) {
                least = errors;
                arrangement.keepCurrent();
            }
            if (!arrangement.moveOn()) {
                break;
            }
        }
        return least;
    }

    /** Expects the air alone in the block that is received. */
    private int errorsInOrder(int[] order) {
        trial.takeFrom(received);
        for (int k = 0; k < present.chain.size; k++) {
            trial.passStage(present, order[k]);
        }
        return trial.errors(present);
    }

    /** Numbers modulo 97, and the light of the symbols. */
    private static final class Field {
        private static final int[] LIGHT = {1, 22, 96, 75};

        static int light(int symbol) {
            return LIGHT[symbol & 3];
        }

        /** The lights lie in the order 1, 22, 75, 96: these are the bounds halfway between them. */
        static int decided(int number) {
            if (number <= 11) {
                return 0;
            }
            if (number <= 48) {
                return 1;
            }
            return number <= 85 ? 3 : 2;
        }

        static int turned(int number, int by) {
            return number * LIGHT[by & 3] % PRIME;
        }

        static int power(int base, int exponent) {
            int result = 1;
            int square = base;
            for (int rest = exponent; rest > 0; rest >>= 1) {
                if ((rest & 1) == 1) {
                    result = result * square % PRIME;
                }
                square = square * square % PRIME;
            }
            return result;
        }

        /** The inverse of a number that is not 0, by Fermat's theorem. */
        static int inverse(int number) {
            return power(number, PRIME - 2);
        }
    }

    /** A matrix of two rows, a b and c d. */
    private static final class Matrix {
        int a;
        int b;
        int c;
        int d;

        void put(int newA, int newB, int newC, int newD) {
            a = Math.floorMod(newA, PRIME);
            b = Math.floorMod(newB, PRIME);
            c = Math.floorMod(newC, PRIME);
            d = Math.floorMod(newD, PRIME);
        }

        int entry(int what) {
            switch (what) {
                case 0: return a;
                case 1: return b;
                case 2: return c;
                default: return d;
            }
        }

        int determinant() {
            return Math.floorMod(a * d - b * c, PRIME);
        }

        void invert() {
            int whole = Field.inverse(determinant());
            put(whole * d, -whole * b, -whole * c, whole * a);
        }

        void multiplyFromLeft(Matrix left) {
            put(left.a * a + left.b * c, left.a * b + left.b * d,
                    left.c * a + left.d * c, left.c * b + left.d * d);
        }
    }

    /** A number at each place of both rows: row 0, then row 1. */
    private static final class Block {
        final int[] numbers = new int[SPOTS];
        private final int[] moved = new int[PLACES];
        private final int[] tally = new int[PRIME];
        private final Matrix matrix = new Matrix();

        void takeFrom(Block other) {
            System.arraycopy(other.numbers, 0, numbers, 0, SPOTS);
        }

        /** What is received if only the first stages are used; the air for none. */
        void receive(State state, int stages) {
            shine(state);
            for (int k = 0; k < state.line.size; k++) {
                passDeed(state.line, k);
            }
            for (int k = 0; k < stages; k++) {
                passStage(state, k);
            }
        }

        private void shine(State state) {
            for (int spot = 0; spot < SPOTS; spot++) {
                numbers[spot] = Field.light(state.sent[spot]);
            }
        }

        private void passDeed(Steps line, int k) {
            int a = line.numberOf(k, 1);
            int b = line.numberOf(k, 2);
            int c = line.numberOf(k, 3);
            switch (line.numberOf(k, 0)) {
                case Steps.SPREAD:
                    spread(a);
                    break;
                case Steps.TWIST:
                    matrix.put(a, b, c, line.numberOf(k, 4));
                    twist();
                    break;
                case Steps.SLIP:
                    slip(a, b);
                    break;
                case Steps.LATE:
                    late(a);
                    break;
                case Steps.HIT:
                    hit(a * PLACES + b, c);
                    break;
                default:
                    break;
            }
        }

        void passStage(State state, int k) {
            Steps chain = state.chain;
            int a = chain.numberOf(k, 1);
            switch (chain.numberOf(k, 0)) {
                case Steps.SPREAD:
                    unspread(a);
                    break;
                case Steps.TWIST:
                    matrix.put(a, chain.numberOf(k, 2), chain.numberOf(k, 3), chain.numberOf(k, 4));
                    matrix.invert();
                    twist();
                    break;
                case Steps.EARLY:
                    late(PLACES - a);
                    break;
                case Steps.BLIND:
                    multiply(brightestFactor());
                    break;
                case Steps.MENDED:
                    mend(state);
                    break;
                default:
                    break;
            }
        }

        private void spread(int a) {
            for (int first = 0; first < SPOTS; first += PLACES) {
                int last = numbers[first + PLACES - 1];
                for (int p = PLACES - 1; p > 0; p--) {
                    int before = numbers[first + p - 1];
                    numbers[first + p] = (numbers[first + p] + a * before) % PRIME;
                }
                numbers[first] = (numbers[first] + a * last) % PRIME;
            }
        }

        void unspread(int a) {
            int minus = PRIME - a;
            int whole = Field.inverse(Math.floorMod(1 - Field.power(a, PLACES), PRIME));
            for (int first = 0; first < SPOTS; first += PLACES) {
                // Going once round the row makes place 0 stand on itself alone, times 1 - a^16.
                int sum = 0;
                for (int p = 1; p <= PLACES; p++) {
                    sum = (sum * minus + numbers[first + p % PLACES]) % PRIME;
                }
                numbers[first] = sum * whole % PRIME;
                for (int p = 1; p < PLACES; p++) {
                    int before = numbers[first + p - 1];
                    numbers[first + p] = (numbers[first + p] + minus * before) % PRIME;
                }
            }
        }

        private void twist() {
            for (int place = 0; place < PLACES; place++) {
                int u = numbers[place];
                int v = numbers[PLACES + place];
                numbers[place] = (matrix.a * u + matrix.b * v) % PRIME;
                numbers[PLACES + place] = (matrix.c * u + matrix.d * v) % PRIME;
            }
        }

        void slip(int from, int by) {
            for (int place = from; place < PLACES; place++) {
                turn(place, by);
            }
        }

        private void turn(int place, int by) {
            numbers[place] = Field.turned(numbers[place], by);
            numbers[PLACES + place] = Field.turned(numbers[PLACES + place], by);
        }

        /** Early by n is late by 16 - n, as the places are cyclic. */
        void late(int by) {
            for (int place = 0; place < PLACES; place++) {
                moved[(place + by) % PLACES] = numbers[PLACES + place];
            }
            System.arraycopy(moved, 0, numbers, PLACES, PLACES);
        }

        private void hit(int spot, int by) {
            numbers[spot] = (numbers[spot] + by) % PRIME;
        }

        private void multiply(int factor) {
            for (int spot = 0; spot < SPOTS; spot++) {
                numbers[spot] = numbers[spot] * factor % PRIME;
            }
        }

        /** Each number but 0 votes for the four factors that make it a light. */
        private int brightestFactor() {
            Arrays.fill(tally, 0);
            for (int spot = 0; spot < SPOTS; spot++) {
                int inverse = Field.inverse(numbers[spot]);
                for (int symbol = 0; symbol < SYMBOLS; symbol++) {
                    tally[Field.turned(inverse, symbol)]++;
                }
            }
            int best = 1;
            for (int factor = 2; factor < PRIME; factor++) {
                if (tally[factor] > tally[best]) {
                    best = factor;
                }
            }
            return best;
        }

        private void mend(State state) {
            int start = state.firstMarked();
            if (start == NONE) {
                return;
            }
            int by = 0;
            for (int ahead = 0; ahead < PLACES; ahead++) {
                int place = (start + ahead) % PLACES;
                if (state.isMarked(place)) {
                    by = bestTurn(state, place);
                }
                turn(place, by);
            }
        }

        private int bestTurn(State state, int place) {
            int best = 0;
            int most = -1;
            for (int by = 0; by < SYMBOLS; by++) {
                int above = Field.turned(numbers[place], by);
                int below = Field.turned(numbers[PLACES + place], by);
                int right = Field.decided(above) == state.sent[place] ? 1 : 0;
                right += Field.decided(below) == state.sent[PLACES + place] ? 1 : 0;
                if (right > most) {
                    most = right;
                    best = by;
                }
            }
            return best;
        }

        int errors(State state) {
            int errors = 0;
            for (int spot = 0; spot < SPOTS; spot++) {
                errors += Field.decided(numbers[spot]) == state.sent[spot] ? 0 : 1;
            }
            return errors;
        }

        int errorsAtMarks(State state) {
            int errors = 0;
            for (int spot = 0; spot < SPOTS; spot++) {
                if (state.isMarked(spot % PLACES)) {
                    errors += Field.decided(numbers[spot]) == state.sent[spot] ? 0 : 1;
                }
            }
            return errors;
        }
    }

    /** A list of deeds or stages: five numbers each, the kind and A to D. */
    private static final class Steps {
        static final int WIDTH = 5;
        // The kinds of deeds; unspread and untwist bear the numbers of the deeds that they undo.
        static final int SPREAD = 0, TWIST = 1, SLIP = 2, LATE = 3, HIT = 4;
        static final int EARLY = 2, BLIND = 3, MENDED = 4;

        // A line for each kind: the least and the most that A, B, C and D may be.
        static final int[] DEED = {
            1, 96,  0, 0,  0, 0,  0, 0,
            0, 96,  0, 96,  0, 96,  0, 96,
            0, 15,  1, 3,  0, 0,  0, 0,
            1, 15,  0, 0,  0, 0,  0, 0,
            0, 1,  0, 15,  1, 96,  0, 0};
        static final int[] STAGE = {
            1, 96,  0, 0,  0, 0,  0, 0,
            0, 96,  0, 96,  0, 96,  0, 96,
            1, 15,  0, 0,  0, 0,  0, 0,
            0, 0,  0, 0,  0, 0,  0, 0,
            0, 0,  0, 0,  0, 0,  0, 0};
        private static final int KINDS = 5;

        private final int[] numbers = new int[MOST_DEEDS * WIDTH];
        private final int room;
        int size;

        /** The room is at most that of a line. */
        Steps(int room) {
            this.room = Math.min(room, MOST_DEEDS);
        }

        static boolean isPossible(int[] ranges, int[] step) {
            for (int index = 0; index < WIDTH; index++) {
                if (!allows(ranges, step, index, step[index])) {
                    return false;
                }
            }
            return true;
        }

        /** Whether a value may stand at an index of a step, given what stands before it. */
        static boolean allows(int[] ranges, int[] step, int index, int value) {
            if (index == 0) {
                return value >= 0 && value < KINDS;
            }
            int kind = step[0];
            int least = 8 * kind + 2 * (index - 1);
            if (value < ranges[least] || value > ranges[least + 1]) {
                return false;
            }
            if (kind == SPREAD && index == 1) {
                return Field.power(value, PLACES) != 1;
            }
            if (kind == TWIST && index == 4) {
                return Math.floorMod(step[1] * value - step[2] * step[3], PRIME) != 0;
            }
            return true;
        }

        boolean isFull() {
            return size >= room;
        }

        void append(int[] step) {
            if (!isFull()) {
                System.arraycopy(step, 0, numbers, size * WIDTH, WIDTH);
                size++;
            }
        }

        void remove(int k) {
            for (int index = k * WIDTH; index < (size - 1) * WIDTH; index++) {
                numbers[index] = numbers[index + WIDTH];
            }
            size--;
        }

        void arrange(Steps former, int[] order) {
            for (int k = 0; k < size; k++) {
                System.arraycopy(former.numbers, order[k] * WIDTH, numbers, k * WIDTH, WIDTH);
            }
        }

        int numberOf(int k, int what) {
            if (k < 0 || k >= size || what < 0 || what >= WIDTH) {
                return BAD;
            }
            return numbers[k * WIDTH + what];
        }

        void takeFrom(Steps other) {
            System.arraycopy(other.numbers, 0, numbers, 0, numbers.length);
            size = other.size;
        }
    }

    /** What acts change, and what undoing them and images restore. */
    private static final class State {
        // A bit for each place: 0, 4, 8 and 12.
        private static final int USUAL_MARKS = 0x1111;

        final int[] sent = new int[SPOTS];
        int marked = USUAL_MARKS;
        final Steps line = new Steps(MOST_DEEDS);
        final Steps chain = new Steps(MOST_STAGES);
        float loss;
        int heard;

        /** Leaves what a text without items tells. */
        void tellNothing() {
            Arrays.fill(sent, 0);
            marked = USUAL_MARKS;
            line.size = 0;
        }

        void emptyRow(int row) {
            for (int place = 0; place < PLACES; place++) {
                sent[row * PLACES + place] = 0;
            }
        }

        boolean isMarked(int place) {
            return (marked >> place & 1) == 1;
        }

        void mark(int place, boolean is) {
            int bit = 1 << place;
            marked = is ? marked | bit : marked & ~bit;
        }

        int firstMarked() {
            for (int place = 0; place < PLACES; place++) {
                if (isMarked(place)) {
                    return place;
                }
            }
            return NONE;
        }

        void takeFrom(State other) {
            System.arraycopy(other.sent, 0, sent, 0, SPOTS);
            marked = other.marked;
            line.takeFrom(other.line);
            chain.takeFrom(other.chain);
            loss = other.loss;
            heard = other.heard;
        }
    }

    /** The states before the last acts; the oldest one gives way. */
    private static final class History {
        private final State[] past = new State[MOST_UNDONE];
        private int next;
        int size;

        History() {
            for (int k = 0; k < MOST_UNDONE; k++) {
                past[k] = new State();
            }
        }

        void remember(State state) {
            past[next].takeFrom(state);
            next = (next + 1) % MOST_UNDONE;
            size = Math.min(size + 1, MOST_UNDONE);
        }

        void restore(State state) {
            next = (next + MOST_UNDONE - 1) % MOST_UNDONE;
            state.takeFrom(past[next]);
            size = Math.max(size - 1, 0);
        }
    }

    /** The text buffer, and the reading of its items. */
    private static final class Text {
        private static final int ROOM = 160;
        private static final int FIRST_FAULT = -10;
        private static final int NO_ITEM = ' ';

        private final int[] letters = new int[ROOM];
        private final int[] step = new int[Steps.WIDTH];
        int length;

        // Where the reading stands: the letter of the item, how many numbers it has told, what came before it.
        private int item;
        private int told;
        private int items;
        private boolean marksTold;

        boolean append(int letter) {
            if (length >= ROOM) {
                return false;
            }
            letters[length] = letter;
            length++;
            return true;
        }

        /** Answers the number of items, or -10 minus the fault. */
        int readInto(State state) {
            state.tellNothing();
            item = NO_ITEM;
            items = 0;
            marksTold = false;
            int start = 0;
            for (int tokens = 0; tokens < ROOM && start < length; tokens++) {
                int end = endOfToken(start);
                if (!takesToken(state, start, end)) {
                    return FIRST_FAULT - start;
                }
                start = end;
            }
            return item == NO_ITEM ? items : FIRST_FAULT - length;
        }

        private int endOfToken(int start) {
            int end = start + 1;
            if (isDigit(letters[start])) {
                while (end < length && isDigit(letters[end])) {
                    end++;
                }
            }
            return end;
        }

        private static boolean isDigit(int letter) {
            return letter >= '0' && letter <= '9';
        }

        private boolean takesToken(State state, int start, int end) {
            int letter = letters[start];
            if (letter == ' ') {
                return true;
            }
            if (isDigit(letter)) {
                return takesNumber(state, valueOf(start, end));
            }
            if (letter == ';') {
                return endsItem(state);
            }
            return beginsItem(state, letter);
        }

        /** The value of a number of one or two digits; BAD for one that no item has. */
        private int valueOf(int start, int end) {
            int first = letters[start] - '0';
            if (end - start == 1) {
                return first;
            }
            if (end - start > 2 || first == 0) {
                return BAD;
            }
            return 10 * first + letters[start + 1] - '0';
        }

        private boolean beginsItem(State state, int letter) {
            if (item != NO_ITEM) {
                return false;
            }
            switch (letter) {
                case 'x':
                    state.emptyRow(0);
                    break;
                case 'y':
                    state.emptyRow(1);
                    break;
                case 'm':
                    if (marksTold) {
                        return false;
                    }
                    marksTold = true;
                    state.marked = 0;
                    break;
                case 'd':
                    if (state.line.isFull()) {
                        return false;
                    }
                    break;
                default:
                    return false;
            }
            item = letter;
            told = 0;
            return true;
        }

        private boolean takesNumber(State state, int value) {
            if (value < 0) {
                return false;
            }
            switch (item) {
                case 'x': return takesSymbol(state, 0, value);
                case 'y': return takesSymbol(state, 1, value);
                case 'm': return takesMark(state, value);
                case 'd': return takesPart(value);
                default: return false;
            }
        }

        private boolean takesSymbol(State state, int row, int value) {
            if (told >= PLACES || !isSymbol(value)) {
                return false;
            }
            state.sent[row * PLACES + told] = value;
            told++;
            return true;
        }

        private boolean takesMark(State state, int place) {
            if (!isPlace(place) || state.isMarked(place)) {
                return false;
            }
            state.mark(place, true);
            return true;
        }

        private boolean takesPart(int value) {
            if (told >= Steps.WIDTH || !Steps.allows(Steps.DEED, step, told, value)) {
                return false;
            }
            step[told] = value;
            told++;
            return true;
        }

        private boolean endsItem(State state) {
            if (!isWhole()) {
                return false;
            }
            if (item == 'd') {
                state.line.append(step);
            }
            item = NO_ITEM;
            items++;
            return true;
        }

        private boolean isWhole() {
            switch (item) {
                case 'x':
                case 'y': return told > 0;
                case 'm': return true;
                case 'd': return told == Steps.WIDTH;
                default: return false;
            }
        }
    }

    /** What was seen with an unknown slip. */
    private static final class Sightings {
        private final int[] spots = new int[MOST_SEEN];
        private final int[] symbols = new int[MOST_SEEN];
        int size;

        boolean append(int spot, int symbol) {
            if (size >= MOST_SEEN) {
                return false;
            }
            spots[size] = spot;
            symbols[size] = symbol;
            size++;
            return true;
        }

        boolean areTrueOf(Block block) {
            for (int k = 0; k < size; k++) {
                if (Field.decided(block.numbers[spots[k]]) != symbols[k]) {
                    return false;
                }
            }
            return true;
        }
    }

    /** Goes through the orders of the stages, from the present one on lexicographically. */
    private static final class Arrangement {
        final int[] current = new int[MOST_STAGES];
        final int[] best = new int[MOST_STAGES];
        private int size;

        void start(int stages) {
            size = Math.min(stages, MOST_STAGES);
            for (int k = 0; k < size; k++) {
                current[k] = k;
            }
        }

        void keepCurrent() {
            System.arraycopy(current, 0, best, 0, size);
        }

        boolean bestIsPresent() {
            for (int k = 0; k < size; k++) {
                if (best[k] != k) {
                    return false;
                }
            }
            return true;
        }

        /** Puts the next order; false behind the last one. */
        boolean moveOn() {
            int rise = size - 2;
            while (rise >= 0 && current[rise] > current[rise + 1]) {
                rise--;
            }
            if (rise < 0) {
                return false;
            }
            int larger = size - 1;
            while (larger > rise && current[larger] < current[rise]) {
                larger--;
            }
            swap(rise, larger);
            for (int low = rise + 1, high = size - 1; low < high; low++, high--) {
                swap(low, high);
            }
            return true;
        }

        private void swap(int i, int j) {
            int kept = current[i];
            current[i] = current[j];
            current[j] = kept;
        }
    }

    /** Probabilities in parts of 10 to the power of n; at most 10^8, which an int holds. */
    private static final class Odds {
        static int power(int base, int exponent) {
            int result = 1;
            for (int k = 0; k < exponent; k++) {
                result *= base;
            }
            return result;
        }

        static int atMost(int x, int n, int k) {
            int sum = 0;
            int choices = 1;
            for (int wrongs = 0; wrongs <= n && wrongs <= k; wrongs++) {
                sum += choices * power(x, wrongs) * power(10 - x, n - wrongs);
                choices = choices * (n - wrongs) / (wrongs + 1);
            }
            return sum;
        }

        /** Of a part and 10 to the power of n, whose only prime divisors are 2 and 5. */
        static int commonDivisor(int part, int n) {
            return sharedPower(part, 2, n) * sharedPower(part, 5, n);
        }

        private static int sharedPower(int part, int prime, int most) {
            int divisor = 1;
            for (int k = 0; k < most && part % (divisor * prime) == 0; k++) {
                divisor *= prime;
            }
            return divisor;
        }
    }
}

/**
 * An analogue-to-digital converter that weighs a held voltage with weights one after the other.
 * The document (DOC.md) says what each call promises; this file is kept to the rules of LANGUAGE.md.
 */
public final class WeighingConverter {
    public static final int NONE = -1;

    private static final int MOST_VOLTAGE = 65535;
    private static final int MOST_TICKS = 99;
    private static final int MOST_RATE = 16;
    private static final int MOST_LEAK = 64;
    private static final int MOST_OFFSET = 64;
    private static final int MOST_WEIGHTS = 12;
    private static final int MOST_STEPS = 2048;
    private static final int MOST_LOGGED = 8;
    private static final int MOST_SAVED = 6;
    private static final int MOST_SIGNS = 60;
    private static final int FIRST_SIGN = 33;
    private static final int LAST_SIGN = 126;

    private static final int STEP = 16; // voltages are in sixteenths of a step
    private static final int RATE_PARTS = 16;
    private static final int LEAK_PARTS = 4096;
    private static final int SUM_LIMIT = 4096; // 12 weights have at most this many sums
    private static final int MENDED_VOLTAGES = 256;
    private static final int FORECAST_TICKS = 200;
    private static final int SETTLE_TICKS = 65536; // a tick moves the voltage by at least 1
    private static final long DIGEST_START = 8399;
    private static final long DIGEST_FACTOR = 31;

    private final State state = new State();
    private final SavedStates saved = new SavedStates();
    private final WeightText text = new WeightText();

    // Made once and used again, so that no call makes an object; they hold nothing between calls.
    private final Weighing weighing = new Weighing();
    private final SumSet sumSet = new SumSet();

    public WeighingConverter() {
    }

    // ---- capacitor

    public int sample(int voltage, int ticks) throws IllegalArgumentException {
        requireArgument(voltage, 0, MOST_VOLTAGE);
        requireArgument(ticks, 1, MOST_TICKS);
        saved.push(state);
        for (int tick = 0; tick < ticks; tick++) {
            state.voltage = afterSampleTick(state.voltage, voltage, state.rate);
        }
        return state.voltage;
    }

    public int hold(int ticks) throws IllegalArgumentException {
        requireArgument(ticks, 1, MOST_TICKS);
        saved.push(state);
        for (int tick = 0; tick < ticks; tick++) {
            state.voltage = afterHoldTick(state.voltage, state.leak);
        }
        return state.voltage;
    }

    public int voltage() {
        return state.voltage;
    }

    // ---- settings

    public int setCapacitor(int rate, int leak) throws IllegalArgumentException {
        requireArgument(rate, 1, MOST_RATE);
        requireArgument(leak, 0, MOST_LEAK);
        saved.push(state);
        int previous = state.rate;
        state.rate = rate;
        state.leak = leak;
        return previous;
    }

    public int setOffset(int offset) throws IllegalArgumentException {
        requireArgument(offset, -MOST_OFFSET, MOST_OFFSET);
        saved.push(state);
        int previous = state.offset;
        state.offset = offset;
        return previous;
    }

    public boolean setGlitch(int step) throws IndexOutOfBoundsException {
        requireNumber(step, MOST_WEIGHTS);
        saved.push(state);
        boolean previous = hasBit(state.glitches, step);
        state.glitches |= 1 << step;
        return previous;
    }

    // ---- weights

    public int setWeight(int weight, int steps) throws IndexOutOfBoundsException, IllegalArgumentException {
        requireNumber(weight, state.weights.count);
        requireArgument(steps, 1, MOST_STEPS);
        saved.push(state);
        int previous = state.weights.sizes[weight];
        state.weights.sizes[weight] = steps;
        return previous;
    }

    public int insertWeight(int weight, int steps)
            throws IndexOutOfBoundsException, IllegalArgumentException, IllegalStateException {
        requireNumber(weight, state.weights.count + 1);
        requireArgument(steps, 1, MOST_STEPS);
        if (state.weights.count >= MOST_WEIGHTS) {
            throw new IllegalStateException("there is no room for one more weight");
        }
        saved.push(state);
        state.weights.putIn(weight, steps);
        return state.weights.count;
    }

    public int removeWeight(int weight) throws IndexOutOfBoundsException, IllegalStateException {
        requireNumber(weight, state.weights.count);
        if (state.weights.count == 1) {
            throw new IllegalStateException("the only weight stays");
        }
        saved.push(state);
        return state.weights.takeOut(weight);
    }

    public int sortWeights() {
        saved.push(state);
        int moved = state.weights.countMisplaced();
        state.weights.sortDescending();
        return moved;
    }

    public int weights() {
        return state.weights.count;
    }

    public int weight(int weight) throws IndexOutOfBoundsException {
        requireNumber(weight, state.weights.count);
        return state.weights.sizes[weight];
    }

    public int total() {
        return state.weights.sum();
    }

    // ---- conversions

    public int convert() {
        saved.push(state);
        int before = state.voltage;
        weighNow();
        state.voltage = weighing.voltage;
        state.glitches = 0;
        state.log.add(before, weighing.kept, weighing.code);
        return weighing.code;
    }

    public int logged() {
        return state.log.count;
    }

    public int code(int conversion) throws IndexOutOfBoundsException {
        requireNumber(conversion, state.log.count);
        return state.log.codes[conversion];
    }

    public int kept(int conversion) throws IndexOutOfBoundsException {
        requireNumber(conversion, state.log.count);
        return state.log.keptMasks[conversion];
    }

    public int error(int conversion) throws IndexOutOfBoundsException {
        requireNumber(conversion, state.log.count);
        return state.log.errorOf(conversion);
    }

    public double meanError() {
        if (state.log.count == 0) {
            return 0.0;
        }
        return (double) state.log.errorSum() / (double) state.log.count;
    }

    // ---- forecasts

    public int ideal(int voltage) throws IllegalArgumentException {
        requireArgument(voltage, 0, MOST_VOLTAGE);
        return steadyCode(voltage, 0);
    }

    public int nextCode() {
        weighNow();
        return weighing.code;
    }

    public int sums() {
        sumSet.fill(state.weights);
        return sumSet.count();
    }

    public int leastMissing() {
        sumSet.fill(state.weights);
        return sumSet.leastMissingSum();
    }

    public int mended(int step) throws IndexOutOfBoundsException {
        requireNumber(step, state.weights.count);
        int mended = 0;
        for (int code = 0; code < MENDED_VOLTAGES; code++) {
            if (steadyCode(STEP * code, 1 << step) == code) {
                mended++;
            }
        }
        return mended;
    }

    public int ticksToChange() {
        int codeNow = steadyCode(state.voltage, 0);
        int held = state.voltage;
        for (int ticks = 1; ticks <= FORECAST_TICKS; ticks++) {
            held = afterHoldTick(held, state.leak);
            if (steadyCode(held, 0) != codeNow) {
                return ticks;
            }
        }
        return NONE;
    }

    public int ticksToSettle(int voltage) throws IllegalArgumentException {
        requireArgument(voltage, 0, MOST_VOLTAGE);
        int held = state.voltage;
        int ticks = 0;
        while (ticks < SETTLE_TICKS && Math.abs(voltage - held) >= STEP) {
            held = afterSampleTick(held, voltage, state.rate);
            ticks++;
        }
        return ticks;
    }

    // ---- weight text

    public int append(int code) throws IllegalArgumentException, IllegalStateException {
        requireArgument(code, FIRST_SIGN, LAST_SIGN);
        if (text.length >= MOST_SIGNS) {
            throw new IllegalStateException("the buffer is full");
        }
        text.add((char) code);
        return text.length;
    }

    public int clearText() {
        int previous = text.length;
        text.length = 0;
        return previous;
    }

    public int firstError() {
        return text.errorIndex();
    }

    public int load() throws IllegalArgumentException {
        if (!text.isComplete()) {
            throw new IllegalArgumentException("the buffer is no complete weight text");
        }
        saved.push(state);
        text.writeTo(state.weights);
        text.length = 0;
        return state.weights.count;
    }

    // ---- undo

    public int undo() throws IllegalStateException {
        if (saved.count == 0) {
            throw new IllegalStateException("no state is saved");
        }
        saved.pop(state);
        return saved.count;
    }

    public int savedStates() {
        return saved.count;
    }

    public long digest() {
        long hash = DIGEST_START;
        hash = mixed(hash, voltage());
        hash = mixed(hash, weights());
        hash = mixed(hash, total());
        hash = mixed(hash, nextCode());
        hash = mixed(hash, sums());
        hash = mixed(hash, leastMissing());
        hash = mixed(hash, ticksToChange());
        hash = mixed(hash, logged());
        for (int number = 0; number < state.weights.count; number++) {
            hash = mixed(hash, weight(number));
            hash = mixed(hash, mended(number));
        }
        for (int conversion = 0; conversion < state.log.count; conversion++) {
            hash = mixed(hash, code(conversion));
            hash = mixed(hash, kept(conversion));
            hash = mixed(hash, error(conversion));
        }
        return hash;
    }

    // ---- behind the face

    private static void requireArgument(int value, int least, int most) {
        if (value < least || value > most) {
            throw new IllegalArgumentException("an argument is out of range");
        }
    }

    private static void requireNumber(int number, int count) {
        if (number < 0 || number >= count) {
            throw new IndexOutOfBoundsException("there is no such number");
        }
    }

    private static boolean hasBit(int mask, int bit) {
        return ((mask >> bit) & 1) != 0;
    }

    private static long mixed(long hash, int value) {
        return DIGEST_FACTOR * hash + value;
    }

    private static int afterSampleTick(int voltage, int input, int rate) {
        int change = (input - voltage) * rate / RATE_PARTS;
        if (change == 0 && input != voltage) {
            change = input > voltage ? 1 : -1;
        }
        return voltage + change;
    }

    private static int afterHoldTick(int voltage, int leak) {
        return voltage - voltage * leak / LEAK_PARTS;
    }

    private void weighNow() {
        weighing.run(state.weights, state.voltage, state.leak, state.offset, state.glitches);
    }

    private int steadyCode(int voltage, int glitches) {
        weighing.run(state.weights, voltage, 0, 0, glitches);
        return weighing.code;
    }

    /** Everything that undo brings back. */
    private static final class State {
        int voltage = 0;
        int rate = 8;
        int leak = 0;
        int offset = 0;
        int glitches = 0; // bit k stands for step k
        final Weights weights = new Weights();
        final Log log = new Log();

        void copyFrom(State other) {
            voltage = other.voltage;
            rate = other.rate;
            leak = other.leak;
            offset = other.offset;
            glitches = other.glitches;
            weights.copyFrom(other.weights);
            log.copyFrom(other.log);
        }
    }

    /** The weights in the order of their numbers; count is 1 to MOST_WEIGHTS between calls. */
    private static final class Weights {
        private static final int[] AT_FIRST = {128, 64, 32, 16, 8, 4, 2, 1};

        final int[] sizes = new int[MOST_WEIGHTS];
        int count = AT_FIRST.length;

        Weights() {
            System.arraycopy(AT_FIRST, 0, sizes, 0, AT_FIRST.length);
        }

        void copyFrom(Weights other) {
            System.arraycopy(other.sizes, 0, sizes, 0, MOST_WEIGHTS);
            count = other.count;
        }

        void putIn(int number, int size) {
            for (int k = count; k > number; k--) {
                sizes[k] = sizes[k - 1];
            }
            sizes[number] = size;
            count++;
        }

        int takeOut(int number) {
            int size = sizes[number];
            count--;
            for (int k = number; k < count; k++) {
                sizes[k] = sizes[k + 1];
            }
            return size;
        }

        int countMisplaced() {
            int misplaced = 0;
            for (int number = 0; number < count; number++) {
                if (sortedNumber(number) != number) {
                    misplaced++;
                }
            }
            return misplaced;
        }

        private int sortedNumber(int number) {
            int before = 0;
            for (int k = 0; k < count; k++) {
                if (sizes[k] > sizes[number] || (sizes[k] == sizes[number] && k < number)) {
                    before++;
                }
            }
            return before;
        }

        void sortDescending() {
            for (int number = 1; number < count; number++) {
                int size = sizes[number];
                int k = number;
                while (k > 0 && sizes[k - 1] < size) {
                    sizes[k] = sizes[k - 1];
                    k--;
                }
                sizes[k] = size;
            }
        }

        int sum() {
            int sum = 0;
            for (int number = 0; number < count; number++) {
                sum += sizes[number];
            }
            return sum;
        }
    }

    /** The latest conversions, the latest one at index 0. */
    private static final class Log {
        final int[] voltages = new int[MOST_LOGGED];
        final int[] keptMasks = new int[MOST_LOGGED];
        final int[] codes = new int[MOST_LOGGED];
        int count = 0;

        void copyFrom(Log other) {
            System.arraycopy(other.voltages, 0, voltages, 0, MOST_LOGGED);
            System.arraycopy(other.keptMasks, 0, keptMasks, 0, MOST_LOGGED);
            System.arraycopy(other.codes, 0, codes, 0, MOST_LOGGED);
            count = other.count;
        }

        void add(int voltage, int keptMask, int code) {
            for (int k = MOST_LOGGED - 1; k > 0; k--) {
                voltages[k] = voltages[k - 1];
                keptMasks[k] = keptMasks[k - 1];
                codes[k] = codes[k - 1];
            }
            voltages[0] = voltage;
            keptMasks[0] = keptMask;
            codes[0] = code;
            count = Math.min(count + 1, MOST_LOGGED);
        }

        int errorOf(int conversion) {
            return STEP * codes[conversion] - voltages[conversion];
        }

        int errorSum() {
            int sum = 0;
            for (int conversion = 0; conversion < count; conversion++) {
                sum += errorOf(conversion);
            }
            return sum;
        }
    }

    /** A ring of states: the newest one takes the place of the oldest one when all are taken. */
    private static final class SavedStates {
        private final State[] ring = new State[MOST_SAVED];
        private int next = 0;
        int count = 0;

        SavedStates() {
            for (int k = 0; k < MOST_SAVED; k++) {
                ring[k] = new State();
            }
        }

        void push(State state) {
            ring[next].copyFrom(state);
            next = next == MOST_SAVED - 1 ? 0 : next + 1;
            count = Math.min(count + 1, MOST_SAVED);
        }

        void pop(State state) {
            next = next == 0 ? MOST_SAVED - 1 : next - 1;
            state.copyFrom(ring[next]);
            count--;
        }
    }

    /** A conversion's result, apart from the state, so that forecasts can weigh without changing it. */
    private static final class Weighing {
        int voltage = 0;
        int kept = 0;
        int code = 0;

        void run(Weights weights, int start, int leak, int offset, int glitches) {
            voltage = start;
            kept = 0;
            code = 0;
            for (int step = 0; step < weights.count; step++) {
                voltage = afterHoldTick(voltage, leak);
                int tried = code + weights.sizes[step];
                boolean enough = voltage + offset >= STEP * tried;
                if (enough != hasBit(glitches, step)) {
                    code = tried;
                    kept |= 1 << step;
                }
            }
        }
    }

    /** The sums below SUM_LIMIT: bit b of word w stands for the sum 64 * w + b. */
    private static final class SumSet {
        private static final int WORD_BITS = 64;
        private static final int WORDS = SUM_LIMIT / WORD_BITS;

        private final long[] words = new long[WORDS];

        void fill(Weights weights) {
            for (int w = 0; w < WORDS; w++) {
                words[w] = 0;
            }
            words[0] = 1; // the sum of no weights
            for (int number = 0; number < weights.count; number++) {
                addShifted(weights.sizes[number]);
            }
        }

        private void addShifted(int size) {
            int wordShift = size / WORD_BITS;
            int bitShift = size % WORD_BITS;
            // Downwards, so that a word takes only from words that do not yet have this weight.
            for (int w = WORDS - 1; w >= wordShift; w--) {
                long shifted = words[w - wordShift] << bitShift;
                if (bitShift > 0 && w > wordShift) {
                    shifted |= words[w - wordShift - 1] >>> (WORD_BITS - bitShift);
                }
                words[w] |= shifted;
            }
        }

        int count() {
            int count = 0;
            for (int w = 0; w < WORDS; w++) {
                count += Long.bitCount(words[w]);
            }
            return count;
        }

        int leastMissingSum() {
            for (int sum = 1; sum < SUM_LIMIT; sum++) {
                if (((words[sum / WORD_BITS] >> (sum % WORD_BITS)) & 1) == 0) {
                    return sum;
                }
            }
            // Only twelve weights with the sums 0 to 4095, each one once, come here.
            return SUM_LIMIT;
        }
    }

    /** The buffer. */
    private static final class WeightText {
        private final char[] signs = new char[MOST_SIGNS];
        int length = 0;

        void add(char sign) {
            signs[length] = sign;
            length++;
        }

        int errorIndex() {
            int size = 0; // 0 before the first digit of a weight
            int weightsBefore = 0;
            for (int at = 0; at < length; at++) {
                char sign = signs[at];
                if (sign == ',') {
                    weightsBefore++;
                    if (size == 0 || weightsBefore == MOST_WEIGHTS) {
                        return at;
                    }
                    size = 0;
                } else {
                    if (sign < '0' || sign > '9') {
                        return at;
                    }
                    size = withDigit(size, sign);
                    if (size == 0 || size > MOST_STEPS) {
                        return at;
                    }
                }
            }
            return length;
        }

        boolean isComplete() {
            return length > 0 && signs[length - 1] != ',' && errorIndex() == length;
        }

        /** Only for a complete weight text, which has no more weights than there is room for. */
        void writeTo(Weights weights) {
            weights.count = 0;
            int size = 0;
            for (int at = 0; at < length; at++) {
                if (signs[at] == ',') {
                    weights.putIn(weights.count, size);
                    size = 0;
                } else {
                    size = withDigit(size, signs[at]);
                }
            }
            weights.putIn(weights.count, size);
        }

        private static int withDigit(int size, char digit) {
            return 10 * size + (digit - '0');
        }
    }
}

import java.util.ArrayDeque;
import java.util.ArrayList;
import java.util.Deque;
import java.util.HashSet;
import java.util.List;
import java.util.Set;
import java.util.regex.Pattern;

/** The document once more, written without a thought of speed or room, to compare long runs with. */
final class Model {
    private static final String WEIGHT = "([1-9]\\d{0,2}|1\\d{3}|20[0-3]\\d|204[0-8])";
    private static final Pattern BEGINNING = Pattern.compile("(" + WEIGHT + ",){0,11}" + WEIGHT + "?");
    private static final Pattern COMPLETE = Pattern.compile("(" + WEIGHT + ",){0,11}" + WEIGHT);

    record Conversion(int before, int kept, int code, int after) {
        int error() {
            return 16 * code - before;
        }
    }

    record State(int voltage, int rate, int leak, int offset, Set<Integer> glitches, List<Integer> weights,
            List<Conversion> log) {
    }

    private State now = new State(0, 8, 0, 0, Set.of(), List.of(128, 64, 32, 16, 8, 4, 2, 1), List.of());
    private final Deque<State> saved = new ArrayDeque<>();
    private String text = "";

    private void go(State next) {
        saved.push(now);
        if (saved.size() > 6) {
            saved.removeLast();
        }
        now = next;
    }

    private static void argument(boolean fine) {
        if (!fine) {
            throw new IllegalArgumentException();
        }
    }

    private static void index(int index, int size) {
        if (index < 0 || index >= size) {
            throw new IndexOutOfBoundsException();
        }
    }

    private static void state(boolean fine) {
        if (!fine) {
            throw new IllegalStateException();
        }
    }

    private static int sampled(int h, int v, int rate) {
        int change = (v - h) * rate / 16;
        return change != 0 || v == h ? h + change : v > h ? h + 1 : h - 1;
    }

    private static int held(int h, int leak) {
        return h - h * leak / 4096;
    }

    private static Conversion conversion(State s) {
        int h = s.voltage;
        int code = 0;
        int kept = 0;
        for (int k = 0; k < s.weights.size(); k++) {
            h = held(h, s.leak);
            boolean keep = h + s.offset >= 16 * (code + s.weights.get(k));
            if (s.glitches.contains(k)) {
                keep = !keep;
            }
            if (keep) {
                code += s.weights.get(k);
                kept += (int) Math.pow(2, k);
            }
        }
        return new Conversion(s.voltage, kept, code, h);
    }

    private int steady(int voltage, Set<Integer> glitches) {
        return conversion(new State(voltage, 1, 0, 0, glitches, now.weights, List.of())).code;
    }

    private void goVoltage(int voltage) {
        go(new State(voltage, now.rate, now.leak, now.offset, now.glitches, now.weights, now.log));
    }

    private void goWeights(List<Integer> weights) {
        go(new State(now.voltage, now.rate, now.leak, now.offset, now.glitches, weights, now.log));
    }

    public int sample(int voltage, int ticks) {
        argument(voltage >= 0 && voltage <= 65535 && ticks >= 1 && ticks <= 99);
        int h = now.voltage;
        for (int k = 0; k < ticks; k++) {
            h = sampled(h, voltage, now.rate);
        }
        goVoltage(h);
        return h;
    }

    public int hold(int ticks) {
        argument(ticks >= 1 && ticks <= 99);
        int h = now.voltage;
        for (int k = 0; k < ticks; k++) {
            h = held(h, now.leak);
        }
        goVoltage(h);
        return h;
    }

    public int voltage() {
        return now.voltage;
    }

    public int setCapacitor(int rate, int leak) {
        argument(rate >= 1 && rate <= 16 && leak >= 0 && leak <= 64);
        int previous = now.rate;
        go(new State(now.voltage, rate, leak, now.offset, now.glitches, now.weights, now.log));
        return previous;
    }

    public int setOffset(int offset) {
        argument(offset >= -64 && offset <= 64);
        int previous = now.offset;
        go(new State(now.voltage, now.rate, now.leak, offset, now.glitches, now.weights, now.log));
        return previous;
    }

    public boolean setGlitch(int step) {
        index(step, 12);
        Set<Integer> glitches = new HashSet<>(now.glitches);
        boolean isNew = glitches.add(step);
        go(new State(now.voltage, now.rate, now.leak, now.offset, glitches, now.weights, now.log));
        return !isNew;
    }

    public int setWeight(int weight, int steps) {
        index(weight, now.weights.size());
        argument(steps >= 1 && steps <= 2048);
        List<Integer> weights = new ArrayList<>(now.weights);
        int previous = weights.set(weight, steps);
        goWeights(weights);
        return previous;
    }

    public int insertWeight(int weight, int steps) {
        index(weight, now.weights.size() + 1);
        argument(steps >= 1 && steps <= 2048);
        state(now.weights.size() < 12);
        List<Integer> weights = new ArrayList<>(now.weights);
        weights.add(weight, steps);
        goWeights(weights);
        return weights.size();
    }

    public int removeWeight(int weight) {
        index(weight, now.weights.size());
        state(now.weights.size() > 1);
        List<Integer> weights = new ArrayList<>(now.weights);
        int size = weights.remove(weight);
        goWeights(weights);
        return size;
    }

    public int sortWeights() {
        List<Integer> numbers = new ArrayList<>();
        for (int k = 0; k < now.weights.size(); k++) {
            numbers.add(k);
        }
        List<Integer> old = now.weights;
        numbers.sort((a, b) -> old.get(b) - old.get(a));
        List<Integer> weights = new ArrayList<>();
        int moved = 0;
        for (int k = 0; k < numbers.size(); k++) {
            weights.add(old.get(numbers.get(k)));
            moved += numbers.get(k) == k ? 0 : 1;
        }
        goWeights(weights);
        return moved;
    }

    public int weights() {
        return now.weights.size();
    }

    public int weight(int weight) {
        index(weight, now.weights.size());
        return now.weights.get(weight);
    }

    public int total() {
        return now.weights.stream().mapToInt(w -> w).sum();
    }

    public int convert() {
        Conversion made = conversion(now);
        List<Conversion> log = new ArrayList<>(now.log);
        log.add(0, made);
        if (log.size() > 8) {
            log.remove(8);
        }
        go(new State(made.after, now.rate, now.leak, now.offset, Set.of(), now.weights, log));
        return made.code;
    }

    public int logged() {
        return now.log.size();
    }

    public int code(int conversion) {
        index(conversion, now.log.size());
        return now.log.get(conversion).code;
    }

    public int kept(int conversion) {
        index(conversion, now.log.size());
        return now.log.get(conversion).kept;
    }

    public int error(int conversion) {
        index(conversion, now.log.size());
        return now.log.get(conversion).error();
    }

    public double meanError() {
        return now.log.isEmpty() ? 0.0
            : (double) now.log.stream().mapToInt(Conversion::error).sum() / (double) now.log.size();
    }

    public int ideal(int voltage) {
        argument(voltage >= 0 && voltage <= 65535);
        return steady(voltage, Set.of());
    }

    public int nextCode() {
        return conversion(now).code;
    }

    private Set<Integer> allSums() {
        Set<Integer> sums = new HashSet<>(Set.of(0));
        for (int weight : now.weights) {
            for (int sum : List.copyOf(sums)) {
                sums.add(sum + weight);
            }
        }
        return sums;
    }

    public int sums() {
        return (int) allSums().stream().filter(sum -> sum <= 4095).count();
    }

    public int leastMissing() {
        Set<Integer> sums = allSums();
        int number = 1;
        while (sums.contains(number)) {
            number++;
        }
        return number;
    }

    public int mended(int step) {
        index(step, now.weights.size());
        int mended = 0;
        for (int v = 0; v <= 255; v++) {
            mended += steady(16 * v, Set.of(step)) == v ? 1 : 0;
        }
        return mended;
    }

    public int ticksToChange() {
        int h = now.voltage;
        for (int ticks = 1; ticks <= 200; ticks++) {
            h = held(h, now.leak);
            if (steady(h, Set.of()) != steady(now.voltage, Set.of())) {
                return ticks;
            }
        }
        return -1;
    }

    public int ticksToSettle(int voltage) {
        argument(voltage >= 0 && voltage <= 65535);
        int h = now.voltage;
        int ticks = 0;
        while (h - voltage >= 16 || voltage - h >= 16) {
            h = sampled(h, voltage, now.rate);
            ticks++;
        }
        return ticks;
    }

    public int append(int code) {
        argument(code >= 33 && code <= 126);
        state(text.length() < 60);
        text += (char) code;
        return text.length();
    }

    public int clearText() {
        int length = text.length();
        text = "";
        return length;
    }

    public int firstError() {
        int length = 0;
        while (length < text.length() && BEGINNING.matcher(text.substring(0, length + 1)).matches()) {
            length++;
        }
        return length;
    }

    public int load() {
        argument(COMPLETE.matcher(text).matches());
        List<Integer> weights = new ArrayList<>();
        for (String weight : text.split(",")) {
            weights.add(Integer.valueOf(weight));
        }
        goWeights(weights);
        text = "";
        return weights.size();
    }

    public int undo() {
        state(!saved.isEmpty());
        now = saved.pop();
        return saved.size();
    }

    public int savedStates() {
        return saved.size();
    }

    public long digest() {
        List<Integer> values = new ArrayList<>(List.of(voltage(), weights(), total(), nextCode(), sums(),
            leastMissing(), ticksToChange(), logged()));
        for (int k = 0; k < weights(); k++) {
            values.add(weight(k));
            values.add(mended(k));
        }
        for (int k = 0; k < logged(); k++) {
            values.addAll(List.of(code(k), kept(k), error(k)));
        }
        long hash = 8399;
        for (int value : values) {
            hash = 31 * hash + value;
        }
        return hash;
    }
}

import java.util.ArrayList;
import java.util.Arrays;
import java.util.List;
import java.util.NoSuchElementException;

/**
 * The document once more, in its slowest words: lists, texts of bits, all cuts tried one by one.
 * ModelTest holds the program's answers against these. It shares no code with the program.
 */
public final class Model {
    private static final int NONE = -1;
    private static final int[][] FIXED_WEIGHTS = {{}, {1}, {2, -1}, {3, -3, 1}, {4, -6, 4, -1}};

    private final List<Integer> tape = new ArrayList<>();
    private final List<List<Integer>> channels = new ArrayList<>();
    private int width;
    private int frame = 32;
    private int effort = 1;
    private int allowed = 255;
    private int seed = 1;
    private int[][] told = new int[3][4];
    private final List<Integer> store = new ArrayList<>();

    /** What a row comes to, packed. */
    private static final class Packed {
        int how;
        int bits;
        List<int[]> runs = new ArrayList<>();
        String text = "";
    }

    /** Thrown where a frame is not good. */
    private static final class Bad extends Exception {
        private static final long serialVersionUID = 1L;
    }

    // ---- told ----

    public int feed(long a, long b, long c) {
        if (tape.size() > 216) {
            return NONE;
        }
        for (long word : new long[] {a, b, c}) {
            for (byte each : java.nio.ByteBuffer.allocate(8).putLong(word).array()) {
                tape.add(each & 255);
            }
        }
        return tape.size();
    }

    public int channel(int w) {
        boolean can = (w == 8 || w == 16) && channels.size() < 2 && (channels.isEmpty() || w == width);
        if (!can) {
            return NONE;
        }
        width = w;
        channels.add(new ArrayList<>());
        return channels.size() - 1;
    }

    private boolean isChannel(int channel) {
        return channel == 0 && channels.size() > 0 || channel == 1 && channels.size() > 1;
    }

    public int samples(int channel, int n) {
        if (!isChannel(channel) || n < 0) {
            return NONE;
        }
        List<Integer> to = channels.get(channel);
        if ((long) n * width > 8L * tape.size() || (long) n + to.size() > 256) {
            return NONE;
        }
        for (int i = 0; i < n; i++) {
            to.add(width == 8
                    ? (int) (byte) (int) tape.get(i)
                    : (int) (short) (tape.get(2 * i) << 8 | tape.get(2 * i + 1)));
        }
        tape.clear();
        return to.size();
    }

    private int held(int value) {
        int half = 1 << (width - 1);
        return value < -half ? -half : value > half - 1 ? half - 1 : value;
    }

    public int fill(int channel, int kind, int many, int x, int y) {
        if (!isChannel(channel) || kind < 0 || kind > 4 || many < 1 || many > 64) {
            return NONE;
        }
        if (x < -65536 || x > 65536 || y < -65536 || y > 65536) {
            return NONE;
        }
        if (kind == 2 && (y < 1 || y > 64) || kind == 3 && (x < 0 || x > 32767) || kind == 4 && (y < 0 || y > 255)) {
            return NONE;
        }
        List<Integer> to = channels.get(channel);
        if (to.size() + many > 256) {
            return NONE;
        }
        if (kind == 3 && y != 0) {
            seed = y;
        }
        for (int k = 0; k < many; k++) {
            int value = x;
            if (kind == 1) {
                value = x + k * y;
            } else if (kind == 2 && (k / y) % 2 == 1) {
                value = -x;
            } else if (kind == 3) {
                seed = (int) (1103515245L * seed + 12345L);
                value = ((seed & 0x7fff0000) >> 16) % (2 * x + 1) - x;
            } else if (kind == 4) {
                int place = to.size() - y;
                if (channels.size() == 2 && place >= 0 && place < channels.get(1 - channel).size()) {
                    value = x + channels.get(1 - channel).get(place);
                }
            }
            to.add(held(value));
        }
        return to.size();
    }

    public int clear() {
        int were = channels.size();
        tape.clear();
        channels.clear();
        width = 0;
        frame = 32;
        effort = 1;
        allowed = 255;
        seed = 1;
        told = new int[3][4];
        return were;
    }

    private static boolean isFrame(int n) {
        return List.of(16, 24, 32, 40, 48, 56, 64).contains(n);
    }

    public int frame(int n) {
        if (!isFrame(n)) {
            return NONE;
        }
        int was = frame;
        frame = n;
        return was;
    }

    public int predictor(int which, int a, int b, int c, int shift) {
        if (which < 5 || which > 7 || shift < 0 || shift > 4) {
            return NONE;
        }
        for (int weight : new int[] {a, b, c}) {
            if (weight < -31 || weight > 31) {
                return NONE;
            }
        }
        told[which - 5] = new int[] {a, b, c, shift};
        return weights(told, which).length;
    }

    public int effort(int e) {
        if (e != 0 && e != 1) {
            return NONE;
        }
        int was = effort;
        effort = e;
        return was;
    }

    public int allow(int set) {
        if (set < 0 || set > 255) {
            return NONE;
        }
        int was = allowed;
        allowed = set | 1;
        return was;
    }

    public int sample(int channel, int i) {
        if (!isChannel(channel) || i < 0 || i >= channels.get(channel).size()) {
            return Integer.MIN_VALUE;
        }
        return channels.get(channel).get(i);
    }

    // ---- predictors ----

    private static int[] weights(int[][] told, int which) {
        if (which < 5) {
            return FIXED_WEIGHTS[which];
        }
        int order = 3;
        while (order > 0 && told[which - 5][order - 1] == 0) {
            order--;
        }
        return Arrays.copyOf(told[which - 5], order);
    }

    private static int shift(int[][] told, int which) {
        return which < 5 ? 0 : told[which - 5][3];
    }

    private static int guess(int[][] told, int which, List<Integer> ahead) {
        int sum = 0;
        int place = ahead.size();
        for (int weight : weights(told, which)) {
            place--;
            sum += weight * ahead.get(place);
        }
        return (int) Math.floorDiv((long) sum, 1L << shift(told, which));
    }

    private List<Integer> residuals(List<Integer> row, int which) {
        List<Integer> all = new ArrayList<>();
        for (int i = weights(told, which).length; i < row.size(); i++) {
            all.add(row.get(i) - guess(told, which, row.subList(0, i)));
        }
        return all;
    }

    // ---- rows ----

    private boolean isReady() {
        return channels.size() == 1
                || channels.size() == 2 && channels.get(0).size() == channels.get(1).size();
    }

    private int frames(int size) {
        return isReady() ? (int) Math.ceil(channels.get(0).size() / (double) size) : 0;
    }

    private List<Integer> slice(int channel, int size, int number) {
        List<Integer> all = channels.get(channel);
        return all.subList(number * size, Math.min(all.size(), (number + 1) * size));
    }

    private List<List<Integer>> rows(int size, int number, int join) {
        List<Integer> l = slice(0, size, number);
        if (channels.size() == 1) {
            return List.of(l);
        }
        List<Integer> r = slice(1, size, number);
        List<Integer> s = new ArrayList<>();
        List<Integer> m = new ArrayList<>();
        for (int i = 0; i < l.size(); i++) {
            s.add(l.get(i) - r.get(i));
            m.add(Math.floorDiv(l.get(i) + r.get(i), 2));
        }
        switch (join) {
            case 0: return List.of(l, r);
            case 1: return List.of(l, s);
            case 2: return List.of(s, r);
            default: return List.of(m, s);
        }
    }

    private static int rowWidth(int width, int join, int row) {
        boolean side = join == 1 && row == 1 || join == 2 && row == 0 || join == 3 && row == 1;
        return side ? width + 1 : width;
    }

    private static String text(int value, int bits) {
        StringBuilder out = new StringBuilder();
        for (int i = bits - 1; i >= 0; i--) {
            out.append((value >> i & 1) == 1 ? '1' : '0');
        }
        return out.toString();
    }

    private static int unsigned(int residual) {
        return residual >= 0 ? 2 * residual : -2 * residual - 1;
    }

    private static int leastW(List<Integer> run) {
        for (int w = 1; ; w++) {
            boolean fits = true;
            for (int r : run) {
                fits &= r >= -(1L << (w - 1)) && r <= (1L << (w - 1)) - 1;
            }
            if (fits) {
                return w;
            }
        }
    }

    /** The bits of a run; NONE, if the parameter is not for it. */
    private static int runBits(List<Integer> run, int parameter) {
        if (parameter == 15) {
            for (int r : run) {
                if (r != 0) {
                    return NONE;
                }
            }
            return 7;
        }
        if (parameter == 14) {
            return 12 + leastW(run) * run.size();
        }
        int bits = 7;
        for (int r : run) {
            bits += unsigned(r) / (1 << parameter) + 1 + parameter;
        }
        return bits;
    }

    private static String runText(List<Integer> run, int groups, int parameter) {
        StringBuilder out = new StringBuilder(text(groups - 1, 3) + text(parameter, 4));
        if (parameter == 14) {
            int w = leastW(run);
            out.append(text(w, 5));
            for (int r : run) {
                out.append(text(r, w));
            }
        } else if (parameter < 14) {
            for (int r : run) {
                int u = unsigned(r);
                out.append("0".repeat(u / (1 << parameter))).append('1').append(text(u % (1 << parameter), parameter));
            }
        }
        return out.toString();
    }

    private static List<Integer> groupsOf(List<Integer> residuals, int from, int groups) {
        return residuals.subList(8 * from, Math.min(residuals.size(), 8 * (from + groups)));
    }

    /** All ways to cut so many groups into runs. */
    private static void cuts(int groups, List<Integer> ahead, List<List<Integer>> out) {
        if (groups == 0) {
            out.add(new ArrayList<>(ahead));
        }
        for (int first = 1; first <= groups && first <= 8; first++) {
            ahead.add(first);
            cuts(groups - first, ahead, out);
            ahead.remove(ahead.size() - 1);
        }
    }

    private static int[] bestRun(List<Integer> run, int groups) {
        int[] best = null;
        for (int parameter = 0; parameter <= 15; parameter++) {
            int bits = runBits(run, parameter);
            if (bits != NONE && (best == null || bits < best[2])) {
                best = new int[] {groups, parameter, bits};
            }
        }
        return best;
    }

    private static boolean isBetter(int bits, List<Integer> cut, int otherBits, List<Integer> other) {
        if (bits != otherBits) {
            return bits < otherBits;
        }
        if (cut.size() != other.size()) {
            return cut.size() < other.size();
        }
        for (int i = 0; i < cut.size(); i++) {
            if (!cut.get(i).equals(other.get(i))) {
                return cut.get(i) > other.get(i);
            }
        }
        return false;
    }

    private static List<int[]> leastRuns(List<Integer> residuals) {
        int groups = (residuals.size() + 7) / 8;
        int[][][] runs = new int[groups + 1][groups + 1][];
        for (int from = 0; from < groups; from++) {
            for (int many = 1; from + many <= groups; many++) {
                runs[from][many] = bestRun(groupsOf(residuals, from, many), many);
            }
        }
        List<List<Integer>> all = new ArrayList<>();
        cuts(groups, new ArrayList<>(), all);
        List<Integer> best = null;
        int least = 0;
        for (List<Integer> cut : all) {
            int bits = 0;
            int from = 0;
            for (int many : cut) {
                bits += runs[from][many][2];
                from += many;
            }
            if (best == null || isBetter(bits, cut, least, best)) {
                best = cut;
                least = bits;
            }
        }
        List<int[]> out = new ArrayList<>();
        int from = 0;
        for (int many : best) {
            out.add(runs[from][many]);
            from += many;
        }
        return out;
    }

    private static long sum(List<Integer> residuals) {
        long sum = 0;
        for (int r : residuals) {
            sum += Math.abs(r);
        }
        return sum;
    }

    private static float meanOf(List<Integer> residuals) {
        return (float) sum(residuals) / residuals.size();
    }

    private static List<int[]> oneRun(List<Integer> residuals) {
        int parameter = sum(residuals) == 0
                ? 15
                : Math.max(0, Math.min(13, 1 + Math.getExponent(meanOf(residuals))));
        int groups = (residuals.size() + 7) / 8;
        return List.of(new int[] {groups, parameter, runBits(residuals, parameter)});
    }

    private Packed by(List<Integer> row, int bits, int which) {
        Packed out = new Packed();
        List<Integer> residuals = residuals(row, which);
        int order = weights(told, which).length;
        out.how = which;
        out.runs = effort == 1 ? leastRuns(residuals) : oneRun(residuals);
        StringBuilder text = new StringBuilder(text(which, 4));
        for (int i = 0; i < order; i++) {
            text.append(text(row.get(i), bits));
        }
        out.bits = 4 + order * bits;
        int from = 0;
        for (int[] run : out.runs) {
            out.bits += run[2];
            if (out.bits < 20000) {
                text.append(runText(groupsOf(residuals, from, run[0]), run[0], run[1]));
            }
            from += run[0];
        }
        out.text = text.toString();
        return out;
    }

    private Packed packRow(List<Integer> row, int bits, int usable) {
        Packed out = new Packed();
        if (row.stream().distinct().count() == 1) {
            out.how = 8;
            out.bits = 4 + bits;
            out.text = text(8, 4) + text(row.get(0), bits);
            return out;
        }
        Packed best = null;
        long least = Long.MAX_VALUE;
        for (int which = 0; which < 8; which++) {
            if ((usable & 1 << which) != 0 && weights(told, which).length < row.size()) {
                Packed tried = effort == 1 ? by(row, bits, which) : null;
                long cost = effort == 1 ? tried.bits : sum(residuals(row, which));
                if (cost < least) {
                    least = cost;
                    best = effort == 1 ? tried : by(row, bits, which);
                }
            }
        }
        if (best.bits <= 4 + row.size() * bits) {
            return best;
        }
        out.how = 9;
        StringBuilder text = new StringBuilder(text(9, 4));
        for (int number : row) {
            text.append(text(number, bits));
        }
        out.text = text.toString();
        out.bits = out.text.length();
        return out;
    }

    private List<Packed> packRows(int size, int number, int join, int usable) {
        List<Packed> out = new ArrayList<>();
        List<List<Integer>> rows = rows(size, number, join);
        for (int row = 0; row < rows.size(); row++) {
            out.add(packRow(rows.get(row), rowWidth(width, join, row), usable));
        }
        return out;
    }

    private static int bits(List<Packed> rows) {
        return rows.stream().mapToInt(row -> row.bits).sum();
    }

    private int bestJoin(int size, int number, int usable) {
        int best = 0;
        for (int join = 1; join < 4 && channels.size() == 2; join++) {
            if (bits(packRows(size, number, join, usable)) < bits(packRows(size, number, best, usable))) {
                best = join;
            }
        }
        return best;
    }

    private boolean isFrameNumber(int number) {
        return number >= 0 && number < frames(frame);
    }

    public int join(int number) {
        return isFrameNumber(number) ? bestJoin(frame, number, allowed) : NONE;
    }

    public int joined(int number, int join) {
        if (!isFrameNumber(number) || join < 0 || join > 3 || join > 0 && channels.size() == 1) {
            return NONE;
        }
        return bits(packRows(frame, number, join, allowed));
    }

    private Packed rowOf(int number, int row) {
        if (!isFrameNumber(number) || row < 0 || row >= channels.size()) {
            return null;
        }
        return packRows(frame, number, bestJoin(frame, number, allowed), allowed).get(row);
    }

    public int row(int number, int row, int what) {
        Packed packed = rowOf(number, row);
        if (packed == null || what < 0 || what > 2) {
            return NONE;
        }
        return what == 0 ? packed.how : what == 1 ? packed.bits : packed.runs.size();
    }

    public int run(int number, int row, int i, int what) {
        Packed packed = rowOf(number, row);
        if (packed == null || what < 0 || what > 2 || i < 0 || i >= packed.runs.size()) {
            return NONE;
        }
        return packed.runs.get(i)[what];
    }

    private List<Integer> numbers(int number, int row, int which) {
        if (!isFrameNumber(number) || row < 0 || row >= channels.size() || which < 0 || which > 7) {
            return null;
        }
        List<Integer> numbers = rows(frame, number, bestJoin(frame, number, allowed)).get(row);
        return weights(told, which).length < numbers.size() ? numbers : null;
    }

    public int residual(int number, int row, int which, int i) {
        List<Integer> numbers = numbers(number, row, which);
        if (numbers == null || i < 0 || i >= numbers.size()) {
            throw new IndexOutOfBoundsException();
        }
        int order = weights(told, which).length;
        return i < order ? numbers.get(i) : residuals(numbers, which).get(i - order);
    }

    public int tried(int number, int row, int which) {
        List<Integer> numbers = numbers(number, row, which);
        if (numbers == null) {
            return NONE;
        }
        return by(numbers, rowWidth(width, bestJoin(frame, number, allowed), row), which).bits;
    }

    public int mean(int number, int row, int which) {
        List<Integer> numbers = numbers(number, row, which);
        return numbers == null ? NONE : Float.floatToIntBits(meanOf(residuals(numbers, which)));
    }

    // ---- packed ----

    private static int check(List<Integer> bytes) {
        // The same division by the polynomial, done on the whole line of bits at once.
        int rest = 65535;
        for (int each : bytes) {
            for (int i = 7; i >= 0; i--) {
                int top = (rest >> 15 & 1) ^ (each >> i & 1);
                rest = (rest << 1 & 65535) ^ (top == 1 ? 0x1021 : 0);
            }
        }
        return rest;
    }

    private static void close(List<Integer> part) {
        int check = check(part);
        part.add(check / 256);
        part.add(check % 256);
    }

    private List<Integer> packed(int size, int usable) {
        List<Integer> out = new ArrayList<>(List.of(83, 80, channels.size(), width, size));
        int samples = channels.get(0).size();
        out.add(samples / 256);
        out.add(samples % 256);
        for (int[] each : told) {
            for (int value : each) {
                out.add(Math.floorMod(value, 256));
            }
        }
        close(out);
        for (int number = 0; number < frames(size); number++) {
            int join = bestJoin(size, number, usable);
            StringBuilder text = new StringBuilder(channels.size() == 2 ? text(join, 2) : "");
            for (Packed row : packRows(size, number, join, usable)) {
                text.append(row.text);
            }
            while (text.length() % 8 != 0) {
                text.append('0');
            }
            List<Integer> bytes = new ArrayList<>(List.of(165, number));
            for (int i = 0; i < text.length(); i += 8) {
                bytes.add(Integer.parseInt(text.substring(i, i + 8), 2));
            }
            close(bytes);
            out.addAll(bytes);
        }
        return out;
    }

    public int size() {
        return isReady() ? packed(frame, allowed).size() : NONE;
    }

    public int sized(int n) {
        return isReady() && isFrame(n) ? packed(n, allowed).size() : NONE;
    }

    public int without(int which) {
        if (!isReady() || which < 1 || which > 7) {
            return NONE;
        }
        return packed(frame, allowed & ~(1 << which)).size();
    }

    public int best() {
        if (!isReady()) {
            return NONE;
        }
        int best = 16;
        for (int n = 24; n <= 64; n += 8) {
            if (sized(n) < sized(best)) {
                best = n;
            }
        }
        return best;
    }

    public int pack() {
        if (!isReady()) {
            return NONE;
        }
        store.clear();
        store.addAll(packed(frame, allowed));
        return store.size();
    }

    private boolean isPlace(int i) {
        return i >= 0 && i < store.size();
    }

    public int store(int i) {
        return isPlace(i) ? store.get(i) : NONE;
    }

    public int spoil(int i, int mask) {
        if (!isPlace(i) || mask < 1 || mask > 255) {
            return NONE;
        }
        store.set(i, store.get(i) ^ mask);
        return store.get(i);
    }

    public int drop(int n) {
        if (n < 0 || n > store.size()) {
            return NONE;
        }
        store.subList(store.size() - n, store.size()).clear();
        return store.size();
    }

    public int take(int i) {
        return isPlace(i) ? store.remove(i) : NONE;
    }

    // ---- read ----

    public int head() {
        if (store.size() < 21) {
            return 1;
        }
        if (store.get(0) != 83 || store.get(1) != 80) {
            return 2;
        }
        boolean can = List.of(1, 2).contains(store.get(2)) && List.of(8, 16).contains(store.get(3))
                && isFrame(store.get(4)) && headSamples() <= 256;
        for (int place : new int[] {10, 14, 18}) {
            can &= store.get(place) <= 4;
        }
        if (!can) {
            return 3;
        }
        return check(store.subList(0, 19)) == store.get(19) * 256 + store.get(20) ? 0 : 4;
    }

    private int headSamples() {
        return store.get(5) * 256 + store.get(6);
    }

    private int headFrames() {
        return (headSamples() + store.get(4) - 1) / store.get(4);
    }

    private int[][] headTold() {
        int[][] out = new int[3][4];
        for (int i = 0; i < 12; i++) {
            out[i / 4][i % 4] = i % 4 == 3 ? store.get(7 + i) : (int) (byte) (int) store.get(7 + i);
        }
        return out;
    }

    /** Bits of the store, read from a place on. */
    private final class Bits {
        int at;

        int next(int many) throws Bad {
            int value = 0;
            for (int i = 0; i < many; i++) {
                if (at / 8 >= store.size()) {
                    throw new Bad();
                }
                value = 2 * value + (store.get(at / 8) >> (7 - at % 8)) % 2;
                at++;
            }
            return value;
        }

        int signed(int many) throws Bad {
            long value = next(many);
            return (int) (many > 0 && value >= 1L << (many - 1) ? value - (1L << many) : value);
        }
    }

    private List<Integer> readRow(Bits in, int many, int bits) throws Bad {
        List<Integer> row = new ArrayList<>();
        int how = in.next(4);
        if (how > 9) {
            throw new Bad();
        }
        if (how == 8) {
            int number = in.signed(bits);
            for (int i = 0; i < many; i++) {
                row.add(number);
            }
            return row;
        }
        int order = how == 9 ? many : weights(headTold(), how).length;
        if (how < 8 && order >= many) {
            throw new Bad();
        }
        while (row.size() < order) {
            row.add(in.signed(bits));
        }
        int groups = (many - order + 7) / 8;
        while (groups > 0) {
            int own = in.next(3) + 1;
            int parameter = in.next(4);
            if (own > groups) {
                throw new Bad();
            }
            int w = parameter == 14 ? in.next(5) : 0;
            int end = Math.min(many, row.size() + 8 * own);
            while (row.size() < end) {
                int residual = 0;
                if (parameter == 14) {
                    residual = in.signed(w);
                } else if (parameter < 14) {
                    int u = 0;
                    while (in.next(1) == 0) {
                        u++;
                    }
                    u = u * (1 << parameter) + in.next(parameter);
                    residual = u % 2 == 0 ? u / 2 : -(u + 1) / 2;
                }
                row.add(guess(headTold(), how, row) + residual);
            }
            groups -= own;
        }
        return row;
    }

    /** What is found of a frame at a place: its channels, and behind them where it ends. */
    private List<List<Integer>> readFrame(int place, boolean checked) throws Bad {
        if (!isPlace(place) || !isPlace(place + 1) || store.get(place) != 165 || store.get(place + 1) >= headFrames()) {
            throw new Bad();
        }
        int from = store.get(place + 1) * store.get(4);
        int many = Math.min(store.get(4), headSamples() - from);
        int width = store.get(3);
        Bits in = new Bits();
        in.at = 8 * (place + 2);
        int join = store.get(2) == 2 ? in.next(2) : 0;
        List<List<Integer>> out = new ArrayList<>();
        for (int row = 0; row < store.get(2); row++) {
            out.add(readRow(in, many, rowWidth(width, join, row)));
        }
        int end = (in.at + 7) / 8;
        if (checked && (end + 2 > store.size()
                || check(store.subList(place, end)) != store.get(end) * 256 + store.get(end + 1))) {
            throw new Bad();
        }
        for (int i = 0; i < many && join > 0; i++) {
            int a = out.get(0).get(i);
            int b = out.get(1).get(i);
            int l = join == 1 ? a : join == 2 ? a + b : Math.floorDiv(2 * a + Math.floorMod(b, 2) + b, 2);
            out.get(0).set(i, l);
            out.get(1).set(i, join == 2 ? b : l - b);
        }
        for (List<Integer> channel : out) {
            for (int value : channel) {
                if (checked && (value < -(1 << (width - 1)) || value >= 1 << (width - 1))) {
                    throw new Bad();
                }
            }
        }
        out.add(List.of(end));
        return out;
    }

    private List<List<Integer>> goodAt(int place) {
        try {
            return readFrame(place, true);
        } catch (Bad bad) {
            return null;
        }
    }

    /** For the test alone: where the check of the frame at a place has to stand; NONE, if it cannot be read. */
    int checkPlace(int place) {
        try {
            List<List<Integer>> read = readFrame(place, false);
            return read.get(read.size() - 1).get(0);
        } catch (Bad bad) {
            return NONE;
        }
    }

    /** For the test alone: the check of the bytes from one place on, up to another. */
    int checkOf(int from, int to) {
        return check(store.subList(from, to));
    }

    private int endOf(List<List<Integer>> read) {
        return read.get(read.size() - 1).get(0) + 2;
    }

    /** Of each frame of the head: its place and length, or null. */
    private int[][] found() {
        int[][] out = new int[headFrames()][];
        int place = 21;
        int number = 0;
        search:
        while (true) {
            for (int from = place; from < store.size(); from++) {
                List<List<Integer>> read = goodAt(from);
                if (read != null && store.get(from + 1) >= number) {
                    out[store.get(from + 1)] = new int[] {from, endOf(read) - from};
                    number = store.get(from + 1) + 1;
                    place = endOf(read);
                    continue search;
                }
            }
            return out;
        }
    }

    public int good() {
        if (head() != 0) {
            return NONE;
        }
        int bits = 0;
        int[][] found = found();
        for (int i = 0; i < found.length; i++) {
            bits += found[i] != null ? 1 << i : 0;
        }
        return bits;
    }

    public int seek(int number, int what) {
        if (head() != 0 || number < 0 || number >= headFrames() || what < 0 || what > 1) {
            return NONE;
        }
        int[] found = found()[number];
        return found == null ? NONE : found[what];
    }

    public int holds(int i) {
        return head() != 0 || i < 0 || i >= headSamples() ? NONE : i / store.get(4);
    }

    public int near(int place) {
        if (head() != 0 || !isPlace(place)) {
            return NONE;
        }
        for (int from = place; from < store.size(); from++) {
            if (goodAt(from) != null) {
                return from;
            }
        }
        return NONE;
    }

    public int at(int place) {
        return head() != 0 || !isPlace(place) || goodAt(place) == null ? NONE : store.get(place + 1);
    }

    private int hears(int channel, int i, int[][] found) {
        int[] place = found[i / store.get(4)];
        return place == null ? 0 : goodAt(place[0]).get(channel).get(i % store.get(4));
    }

    public int heard(int channel, int i) {
        if (head() != 0 || channel < 0 || channel >= store.get(2) || i < 0 || i >= headSamples()) {
            throw new NoSuchElementException();
        }
        return hears(channel, i, found());
    }

    public int same() {
        if (head() != 0) {
            return NONE;
        }
        int same = 0;
        int[][] found = found();
        for (int channel = 0; channel < Math.min(channels.size(), store.get(2)); channel++) {
            for (int i = 0; i < Math.min(channels.get(channel).size(), headSamples()); i++) {
                same += hears(channel, i, found) == channels.get(channel).get(i) ? 1 : 0;
            }
        }
        return same;
    }

    // ---- measures ----

    public int ratio() {
        if (!isReady() || channels.get(0).isEmpty()) {
            return NONE;
        }
        return Float.floatToIntBits((float) size() / (channels.size() * channels.get(0).size() * width / 8));
    }

    public int loud(int channel, int what) {
        if (!isChannel(channel) || what < 0 || what > 1 || channels.get(channel).isEmpty()) {
            throw new NoSuchElementException();
        }
        double sum = 0;
        for (int value : channels.get(channel)) {
            sum += (double) value * value;
        }
        long bits = Double.doubleToLongBits(sum / channels.get(channel).size());
        return (int) (what == 0 ? bits >> 32 : bits);
    }

    public int count(int what) {
        switch (what) {
            case 0: return channels.size();
            case 1: return channels.isEmpty() ? 0 : width;
            case 2: return frame;
            case 3: return effort;
            case 4: return allowed;
            case 5:
            case 6: return isChannel(what - 5) ? channels.get(what - 5).size() : NONE;
            case 7: return frames(frame);
            case 8: return store.size();
            case 9: return tape.size();
            case 10: return seed;
            default: return NONE;
        }
    }
}

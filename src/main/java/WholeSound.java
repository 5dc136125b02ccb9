import java.util.NoSuchElementException;

/**
 * Sound packed whole: whole-number predictors tried per frame, residual runs cut for least bits,
 * channels joined, seeking by frame.
 *
 * <p>The words in capitals are those of the document.
 */
public final class WholeSound {
    public static final int NONE = -1;

    private static final int MOST_CHANNELS = 2;
    private static final int MOST_SAMPLES = 256;
    private static final int MOST_TAPE = 240;
    private static final int FED_BYTES = 24;
    private static final int MOST_STORE = 4000;

    private static final int LEAST_FRAME = 16;
    private static final int MOST_FRAME = 64;
    private static final int FRAME_STEP = 8;
    private static final int FIRST_FRAME = 32;
    private static final int MOST_FRAMES = MOST_SAMPLES / LEAST_FRAME;

    private static final int PREDICTORS = 8;
    private static final int FIRST_TOLD = 5;
    private static final int MOST_ORDER = 4;
    private static final int TOLD_WEIGHTS = 3;
    private static final int MOST_WEIGHT = 31;
    private static final int MOST_SHIFT = 4;
    private static final int ALL_ALLOWED = 255;

    private static final int STILL = 8;
    private static final int PLAIN = 9;
    private static final int HOW_BITS = 4;
    private static final int JOINS = 4;
    private static final int JOIN_BITS = 2;

    private static final int GROUP = 8;
    private static final int MOST_GROUPS = MOST_FRAME / GROUP;
    private static final int GROUPS_BITS = 3;
    private static final int PARAMETER_BITS = 4;
    private static final int RUN_BITS = GROUPS_BITS + PARAMETER_BITS;
    private static final int SPLITS = 14;
    private static final int FIXED = 14;
    private static final int FIXED_BITS = 5;
    private static final int ZEROS = 15;

    private static final int HEAD_SIZE = 21;
    private static final int HEAD_FIRST = 83;
    private static final int HEAD_SECOND = 80;
    private static final int HEAD_TOLD = 7;
    private static final int MARK = 165;
    private static final int CHECK_SIZE = 2;

    private static final int MOST_FILL = 64;
    private static final int MOST_TOLD = 65536;
    private static final int MOST_DRAWN = 32767;
    private static final int FIRST_SEED = 1;

    private final Tape tape = new Tape();
    private final Sound sound = new Sound();
    private final Predictors predictors = new Predictors();
    private final Plan plan = new Plan();
    private final Cutter cutter = plan.cutter;
    private final Reader reader = new Reader();
    private final Store store = reader.store;
    private int frameSize = FIRST_FRAME;
    private int effort = 1;
    private int allowed = ALL_ALLOWED;

    public WholeSound() {
    }

    // ---- what is told ----

    public int feed(long a, long b, long c) {
        if (tape.used + FED_BYTES > MOST_TAPE) {
            return NONE;
        }
        tape.push(a);
        tape.push(b);
        tape.push(c);
        return tape.used;
    }

    public int channel(int width) {
        if (!isWidth(width) || sound.channels >= MOST_CHANNELS) {
            return NONE;
        }
        if (sound.channels > 0 && sound.width != width) {
            return NONE;
        }
        sound.width = width;
        sound.channels++;
        return sound.channels - 1;
    }

    public int samples(int channel, int n) {
        if (!sound.has(channel) || n < 0 || n > MOST_SAMPLES - sound.counts[channel]) {
            return NONE;
        }
        int bytes = sound.width / 8;
        if (n * bytes > tape.used) {
            return NONE;
        }
        for (int i = 0; i < n; i++) {
            sound.put(channel, tape.signedAt(i * bytes, bytes));
        }
        tape.used = 0;
        return sound.counts[channel];
    }

    public int fill(int channel, int kind, int many, int x, int y) {
        if (!sound.has(channel) || many < 1 || many > MOST_FILL
                || many > MOST_SAMPLES - sound.counts[channel] || !canFill(kind, x, y)) {
            return NONE;
        }
        if (kind == 3 && y != 0) {
            sound.seed = y;
        }
        for (int k = 0; k < many; k++) {
            sound.put(channel, sound.held(filled(channel, kind, k, x, y)));
        }
        return sound.counts[channel];
    }

    private static boolean canFill(int kind, int x, int y) {
        if (x < -MOST_TOLD || x > MOST_TOLD || y < -MOST_TOLD || y > MOST_TOLD) {
            return false;
        }
        switch (kind) {
            case 0:
            case 1:
                return true;
            case 2:
                return y >= 1 && y <= MOST_FILL;
            case 3:
                return x >= 0 && x <= MOST_DRAWN;
            case 4:
                return y >= 0 && y < MOST_SAMPLES;
            default:
                return false;
        }
    }

    private int filled(int channel, int kind, int k, int x, int y) {
        switch (kind) {
            case 1:
                return x + k * y;
            case 2:
                return y > 0 && k / y % 2 != 0 ? -x : x;
            case 3:
                return x < 0 ? 0 : sound.draw() % (2 * x + 1) - x;
            case 4:
                return x + sound.orZero(MOST_CHANNELS - 1 - channel, sound.counts[channel] - y);
            default:
                return x;
        }
    }

    public int clear() {
        int channels = sound.channels;
        tape.used = 0;
        sound.forget();
        predictors.forget();
        frameSize = FIRST_FRAME;
        effort = 1;
        allowed = ALL_ALLOWED;
        return channels;
    }

    public int frame(int n) {
        if (!isFrame(n)) {
            return NONE;
        }
        int before = frameSize;
        frameSize = n;
        return before;
    }

    public int predictor(int which, int a, int b, int c, int shift) {
        if (which < FIRST_TOLD || which >= PREDICTORS || !isShift(shift)
                || !isWeight(a) || !isWeight(b) || !isWeight(c)) {
            return NONE;
        }
        predictors.tell(which, a, b, c, shift);
        return predictors.orders[which];
    }

    public int effort(int effort) {
        if (effort < 0 || effort > 1) {
            return NONE;
        }
        int before = this.effort;
        this.effort = effort;
        return before;
    }

    public int allow(int set) {
        if (set < 0 || set > ALL_ALLOWED) {
            return NONE;
        }
        int before = allowed;
        allowed = set | 1;
        return before;
    }

    public int sample(int channel, int i) {
        return sound.holdsPlace(channel, i) ? sound.valueAt(channel, i) : Integer.MIN_VALUE;
    }

    // ---- how a frame would be packed ----

    public int join(int frame) {
        if (!hasFrame(frame)) {
            return NONE;
        }
        plan.make(sound, predictors, frameSize, frame, effort, allowed);
        return plan.way;
    }

    public int joined(int frame, int join) {
        if (join < 0 || join >= JOINS || join > 0 && sound.channels < MOST_CHANNELS || !hasFrame(frame)) {
            return NONE;
        }
        plan.make(sound, predictors, frameSize, frame, effort, allowed);
        return plan.rowBits(join);
    }

    public int row(int frame, int row, int what) {
        Row planned = plannedRow(frame, row);
        if (planned == null) {
            return NONE;
        }
        switch (what) {
            case 0:
                return planned.how;
            case 1:
                return planned.bits;
            case 2:
                return planned.runs;
            default:
                return NONE;
        }
    }

    public int run(int frame, int row, int i, int what) {
        Row planned = plannedRow(frame, row);
        if (planned == null || i < 0 || i >= planned.runs) {
            return NONE;
        }
        switch (what) {
            case 0:
                return planned.runGroups[i];
            case 1:
                return planned.runParameters[i];
            case 2:
                return planned.runBits[i];
            default:
                return NONE;
        }
    }

    public int residual(int frame, int row, int predictor, int i) throws IndexOutOfBoundsException {
        Row planned = plannedRow(frame, row);
        if (planned == null || !canTry(planned, predictor) || i < 0 || i >= planned.many) {
            throw new IndexOutOfBoundsException();
        }
        int number = planned.numbers[i];
        if (i < predictors.orders[predictor]) {
            return number;
        }
        return number - predictors.guess(predictor, planned.numbers, i);
    }

    public int tried(int frame, int row, int predictor) {
        Row planned = plannedRow(frame, row);
        if (planned == null || !canTry(planned, predictor)) {
            return NONE;
        }
        cutter.load(planned, predictors, predictor);
        return planned.firstBits(predictors.orders[predictor])
                + (effort == 0 ? cutter.cutNowhere() : cutter.cutForLeast());
    }

    public int mean(int frame, int row, int predictor) {
        Row planned = plannedRow(frame, row);
        if (planned == null || !canTry(planned, predictor)) {
            return NONE;
        }
        cutter.load(planned, predictors, predictor);
        return floatBits(cutter.meanSize());
    }

    private boolean hasFrame(int frame) {
        return frame >= 0 && frame < sound.frames(frameSize);
    }

    /** A ROW of a FRAME by its JOIN, or null. */
    private Row plannedRow(int frame, int row) {
        if (row < 0 || row >= sound.channels || !hasFrame(frame)) {
            return null;
        }
        plan.make(sound, predictors, frameSize, frame, effort, allowed);
        return row == 0 ? plan.firstRow(plan.way) : plan.secondRow(plan.way);
    }

    private boolean canTry(Row row, int predictor) {
        return predictor >= 0 && predictor < PREDICTORS && predictors.orders[predictor] < row.many;
    }

    // ---- how many bytes it has ----

    public int size() {
        return sound.ready() ? packedSize(frameSize, allowed) : NONE;
    }

    public int sized(int n) {
        return sound.ready() && isFrame(n) ? packedSize(n, allowed) : NONE;
    }

    public int without(int predictor) {
        if (!sound.ready() || predictor < 1 || predictor >= PREDICTORS) {
            return NONE;
        }
        return packedSize(frameSize, allowed & ~(1 << predictor));
    }

    public int best() {
        if (!sound.ready()) {
            return NONE;
        }
        int best = LEAST_FRAME;
        int least = packedSize(LEAST_FRAME, allowed);
        for (int n = LEAST_FRAME + FRAME_STEP; n <= MOST_FRAME; n += FRAME_STEP) {
            int bytes = packedSize(n, allowed);
            if (bytes < least) {
                least = bytes;
                best = n;
            }
        }
        return best;
    }

    private int packedSize(int size, int usable) {
        int bytes = HEAD_SIZE;
        int frames = sound.frames(size);
        for (int number = 0; number < frames; number++) {
            plan.make(sound, predictors, size, number, effort, usable);
            bytes += 2 + (plan.allBits() + 7) / 8 + CHECK_SIZE;
        }
        return bytes;
    }

    // ---- the bytes ----

    public int pack() {
        if (!sound.ready()) {
            return NONE;
        }
        store.used = 0;
        writeHead();
        int frames = sound.frames(frameSize);
        for (int number = 0; number < frames; number++) {
            plan.make(sound, predictors, frameSize, number, effort, allowed);
            writeFrame(number);
        }
        return store.used;
    }

    private void writeHead() {
        store.putByte(HEAD_FIRST);
        store.putByte(HEAD_SECOND);
        store.putByte(sound.channels);
        store.putByte(sound.width);
        store.putByte(frameSize);
        store.putByte(sound.counts[0] >> 8);
        store.putByte(sound.counts[0]);
        for (int which = FIRST_TOLD; which < PREDICTORS; which++) {
            for (int place = 0; place < TOLD_WEIGHTS; place++) {
                store.putByte(predictors.weightAt(which, place));
            }
            store.putByte(predictors.shifts[which]);
        }
        store.putCheck(0);
    }

    private void writeFrame(int number) {
        int from = store.used;
        store.putByte(MARK);
        store.putByte(number);
        if (sound.channels == MOST_CHANNELS) {
            store.putBits(plan.way, JOIN_BITS);
        }
        writeRow(plan.firstRow(plan.way));
        if (sound.channels == MOST_CHANNELS) {
            writeRow(plan.secondRow(plan.way));
        }
        store.endBits();
        store.putCheck(from);
    }

    private void writeRow(Row row) {
        store.putBits(row.how, HOW_BITS);
        int plain = row.many;
        if (row.how == STILL) {
            plain = 1;
        } else if (row.how < PREDICTORS) {
            plain = predictors.orders[row.how];
        }
        for (int i = 0; i < plain; i++) {
            store.putBits(row.numbers[i], row.width);
        }
        if (row.how < PREDICTORS) {
            writeRuns(row);
        }
    }

    private void writeRuns(Row row) {
        // The cutter is shared: by now it may hold the residuals of another row.
        cutter.load(row, predictors, row.how);
        int from = 0;
        for (int run = 0; run < row.runs; run++) {
            int to = Math.min(cutter.many, from + row.runGroups[run] * GROUP);
            int parameter = row.runParameters[run];
            store.putBits(row.runGroups[run] - 1, GROUPS_BITS);
            store.putBits(parameter, PARAMETER_BITS);
            if (parameter == FIXED) {
                store.putBits(row.runWidths[run], FIXED_BITS);
                writeFixed(from, to, row.runWidths[run]);
            } else if (parameter < SPLITS) {
                writeSplit(from, to, parameter);
            }
            from = to;
        }
    }

    private void writeFixed(int from, int to, int width) {
        for (int i = from; i < to; i++) {
            store.putBits(cutter.residuals[i], width);
        }
    }

    private void writeSplit(int from, int to, int parameter) {
        for (int i = from; i < to; i++) {
            int unsigned = Cutter.unsigned(cutter.residuals[i]);
            int zeros = unsigned >> parameter;
            for (int z = 0; z < zeros; z++) {
                store.putBits(0, 1);
            }
            store.putBits(1, 1);
            store.putBits(unsigned, parameter);
        }
    }

    public int store(int i) {
        return store.has(i) ? store.bytes[i] : NONE;
    }

    public int spoil(int i, int mask) {
        if (!store.has(i) || mask < 1 || mask > 255) {
            return NONE;
        }
        store.bytes[i] ^= mask;
        return store.bytes[i];
    }

    public int drop(int n) {
        if (n < 0 || n > store.used) {
            return NONE;
        }
        store.used -= n;
        return store.used;
    }

    public int take(int i) {
        if (!store.has(i)) {
            return NONE;
        }
        int taken = store.bytes[i];
        for (int behind = i + 1; behind < store.used; behind++) {
            store.bytes[behind - 1] = store.bytes[behind];
        }
        store.used--;
        return taken;
    }

    // ---- what the bytes tell ----

    public int head() {
        return reader.readHead();
    }

    public int good() {
        if (reader.readHead() != 0) {
            return NONE;
        }
        reader.find();
        int bits = 0;
        for (int number = 0; number < MOST_FRAMES; number++) {
            if (reader.places[number] != NONE) {
                bits |= 1 << number;
            }
        }
        return bits;
    }

    public int seek(int frame, int what) {
        if (what < 0 || what > 1 || frame < 0 || frame >= MOST_FRAMES || reader.readHead() != 0) {
            return NONE;
        }
        reader.find();
        return what == 0 ? reader.places[frame] : reader.lengths[frame];
    }

    public int holds(int i) {
        if (reader.readHead() != 0 || i < 0 || i >= reader.samples || reader.size <= 0) {
            return NONE;
        }
        return i / reader.size;
    }

    public int near(int place) {
        if (!store.has(place) || reader.readHead() != 0) {
            return NONE;
        }
        for (int from = place; from < store.used; from++) {
            if (reader.lengthAt(from) != NONE) {
                return from;
            }
        }
        return NONE;
    }

    public int at(int place) {
        if (!store.has(place) || reader.readHead() != 0 || reader.lengthAt(place) == NONE) {
            return NONE;
        }
        return reader.numberAt(place);
    }

    public int heard(int channel, int i) throws NoSuchElementException {
        if (reader.readHead() != 0 || channel < 0 || channel >= reader.channels
                || i < 0 || i >= reader.samples) {
            throw new NoSuchElementException();
        }
        reader.find();
        return reader.out[channel * MOST_SAMPLES + i];
    }

    public int same() {
        if (reader.readHead() != 0) {
            return NONE;
        }
        reader.find();
        int same = 0;
        for (int channel = 0; channel < sound.channels && channel < reader.channels; channel++) {
            int both = Math.min(sound.counts[channel], reader.samples);
            for (int i = 0; i < both; i++) {
                if (sound.valueAt(channel, i) == reader.out[channel * MOST_SAMPLES + i]) {
                    same++;
                }
            }
        }
        return same;
    }

    // ---- measures ----

    public int ratio() {
        if (!sound.ready() || sound.counts[0] == 0) {
            return NONE;
        }
        int bytes = sound.channels * sound.counts[0] * (sound.width / 8);
        if (bytes <= 0) {
            return NONE;
        }
        return floatBits((float) packedSize(frameSize, allowed) / (float) bytes);
    }

    public int loud(int channel, int what) throws NoSuchElementException {
        if (!sound.has(channel) || what < 0 || what > 1 || sound.counts[channel] <= 0) {
            throw new NoSuchElementException();
        }
        long sum = 0;
        for (int i = 0; i < sound.counts[channel]; i++) {
            long value = sound.valueAt(channel, i);
            sum += value * value;
        }
        long bits = doubleBits((double) sum / (double) sound.counts[channel]);
        return what == 0 ? (int) (bits >>> 32) : (int) bits;
    }

    public int count(int what) {
        switch (what) {
            case 0:
                return sound.channels;
            case 1:
                return sound.width;
            case 2:
                return frameSize;
            case 3:
                return effort;
            case 4:
                return allowed;
            case 5:
            case 6:
                return sound.has(what - 5) ? sound.counts[what - 5] : NONE;
            case 7:
                return sound.frames(frameSize);
            case 8:
                return store.used;
            case 9:
                return tape.used;
            case 10:
                return sound.seed;
            default:
                return NONE;
        }
    }

    // ---- what can be told ----

    private static boolean isWidth(int width) {
        return width == 8 || width == 16;
    }

    private static boolean isFrame(int n) {
        return n >= LEAST_FRAME && n <= MOST_FRAME && n % FRAME_STEP == 0;
    }

    private static boolean isShift(int shift) {
        return shift >= 0 && shift <= MOST_SHIFT;
    }

    private static boolean isWeight(int weight) {
        return weight >= -MOST_WEIGHT && weight <= MOST_WEIGHT;
    }

    /** The bits of a float of 0 or more; halving and doubling are exact, so none are lost. */
    private static int floatBits(float value) {
        if (!(value > 0f)) {
            return 0;
        }
        int power = 127;
        float rest = value;
        while (rest >= 2f && power < 254) {
            rest = rest / 2f;
            power++;
        }
        while (rest < 1f && power > 1) {
            rest = rest * 2f;
            power--;
        }
        return (power << 23) + ((int) (rest * 8388608f) - 8388608);
    }

    /** The bits of a double of 0 or more, likewise. */
    private static long doubleBits(double value) {
        if (!(value > 0.0)) {
            return 0L;
        }
        long power = 1023L;
        double rest = value;
        while (rest >= 2.0 && power < 2046L) {
            rest = rest / 2.0;
            power++;
        }
        while (rest < 1.0 && power > 1L) {
            rest = rest * 2.0;
            power--;
        }
        return (power << 52) + ((long) (rest * 4503599627370496.0) - 4503599627370496L);
    }

    /** The bytes that were fed and are no SAMPLES yet. */
    private static final class Tape {
        final int[] bytes = new int[MOST_TAPE];
        int used;

        void push(long word) {
            for (int shift = 56; shift >= 0 && used < bytes.length; shift -= 8) {
                bytes[used] = (int) (word >>> shift) & 255;
                used++;
            }
        }

        /** The number of one or two bytes at a place. */
        int signedAt(int place, int many) {
            if (place < 0 || many < 1 || place > bytes.length - many) {
                return 0;
            }
            int value = (byte) bytes[place];
            for (int i = 1; i < many; i++) {
                value = value * 256 + bytes[place + i];
            }
            return value;
        }
    }

    /** The CHANNELS with their SAMPLES, and the SEED that some are drawn by. */
    private static final class Sound {
        final int[] values = new int[MOST_CHANNELS * MOST_SAMPLES];
        final int[] counts = new int[MOST_CHANNELS];
        int channels;
        int width;
        int seed = FIRST_SEED;

        void forget() {
            for (int channel = 0; channel < counts.length; channel++) {
                counts[channel] = 0;
            }
            channels = 0;
            width = 0;
            seed = FIRST_SEED;
        }

        boolean has(int channel) {
            return channel >= 0 && channel < channels && channel < counts.length;
        }

        boolean holdsPlace(int channel, int i) {
            return has(channel) && i >= 0 && i < counts[channel];
        }

        int valueAt(int channel, int i) {
            return values[channel * MOST_SAMPLES + i];
        }

        int orZero(int channel, int i) {
            return holdsPlace(channel, i) ? valueAt(channel, i) : 0;
        }

        void put(int channel, int value) {
            if (has(channel) && counts[channel] < MOST_SAMPLES) {
                values[channel * MOST_SAMPLES + counts[channel]] = value;
                counts[channel]++;
            }
        }

        int held(int value) {
            int above = width == 8 ? 128 : 32768;
            return Math.max(-above, Math.min(above - 1, value));
        }

        int draw() {
            seed = 1103515245 * seed + 12345;
            return seed >>> 16 & 32767;
        }

        boolean ready() {
            return channels == 1 || channels == MOST_CHANNELS && counts[0] == counts[1];
        }

        int frames(int size) {
            return ready() && size > 0 ? (counts[0] + size - 1) / size : 0;
        }
    }

    /** Weights, ORDERS and SHIFTS: those of the document, and three that are told. */
    private static final class Predictors {
        final int[] weights = {
            0, 0, 0, 0,
            1, 0, 0, 0,
            2, -1, 0, 0,
            3, -3, 1, 0,
            4, -6, 4, -1,
            0, 0, 0, 0,
            0, 0, 0, 0,
            0, 0, 0, 0
        };
        final int[] orders = {0, 1, 2, 3, 4, 0, 0, 0};
        final int[] shifts = new int[PREDICTORS];

        void forget() {
            for (int which = FIRST_TOLD; which < PREDICTORS; which++) {
                tell(which, 0, 0, 0, 0);
            }
        }

        void tell(int which, int a, int b, int c, int shift) {
            if (which < FIRST_TOLD || which >= PREDICTORS) {
                return;
            }
            weights[which * MOST_ORDER] = a;
            weights[which * MOST_ORDER + 1] = b;
            weights[which * MOST_ORDER + 2] = c;
            shifts[which] = shift;
            orders[which] = c != 0 ? 3 : b != 0 ? 2 : a != 0 ? 1 : 0;
        }

        int weightAt(int which, int place) {
            return weights[which * MOST_ORDER + place];
        }

        /** What is GUESSED of the i-th number, that has ORDER numbers ahead of it at least. */
        int guess(int which, int[] numbers, int i) {
            int sum = 0;
            int order = orders[which];
            for (int back = 1; back <= order && back <= i; back++) {
                sum += weights[which * MOST_ORDER + back - 1] * numbers[i - back];
            }
            return sum >> shifts[which];
        }
    }

    /** The RESIDUALS of a ROW by one PREDICTOR, and how they are cut into RUNS. */
    private static final class Cutter {
        final int[] residuals = new int[MOST_FRAME];
        int many;
        int groups;
        int sum;

        // Of each group: where it begins, its W, and of all ahead of it the quotients added up.
        final int[] starts = new int[MOST_GROUPS + 1];
        final int[] groupWidths = new int[MOST_GROUPS];
        final int[] quotients = new int[(MOST_GROUPS + 1) * SPLITS];

        // Of the groups from each on: the bits and how many runs, and the first of these runs.
        final int[] least = new int[MOST_GROUPS + 1];
        final int[] fewest = new int[MOST_GROUPS + 1];
        final int[] lengths = new int[MOST_GROUPS];
        final int[] parameters = new int[MOST_GROUPS];
        final int[] widths = new int[MOST_GROUPS];
        final int[] bits = new int[MOST_GROUPS];

        int foundParameter;
        int foundBits;

        static int unsigned(int residual) {
            return residual < 0 ? -2 * residual - 1 : 2 * residual;
        }

        void load(Row row, Predictors predictors, int which) {
            many = 0;
            sum = 0;
            for (int i = predictors.orders[which]; i < row.many; i++) {
                int residual = row.numbers[i] - predictors.guess(which, row.numbers, i);
                residuals[many] = residual;
                many++;
                sum += residual < 0 ? -residual : residual;
            }
            groups = (many + GROUP - 1) / GROUP;
        }

        float meanSize() {
            return many > 0 ? (float) sum / (float) many : 0f;
        }

        /** EFFORT 0; the bits of all RUNS. */
        int cutNowhere() {
            int parameter = parameterOfMean();
            int own = RUN_BITS;
            if (parameter != ZEROS) {
                for (int i = 0; i < many; i++) {
                    own += (unsigned(residuals[i]) >> parameter) + 1 + parameter;
                }
            }
            lengths[0] = groups;
            parameters[0] = parameter;
            bits[0] = own;
            return own;
        }

        private int parameterOfMean() {
            if (sum == 0) {
                return ZEROS;
            }
            float mean = meanSize();
            int parameter = 0;
            float power = 1f;
            while (parameter < SPLITS - 1 && power <= mean) {
                power = power * 2f;
                parameter++;
            }
            return parameter;
        }

        /** EFFORT 1; the bits of all RUNS. */
        int cutForLeast() {
            measureGroups();
            least[groups] = 0;
            fewest[groups] = 0;
            for (int from = groups - 1; from >= 0; from--) {
                int widest = 1;
                for (int to = from + 1; to <= groups; to++) {
                    widest = Math.max(widest, groupWidths[to - 1]);
                    findParameter(from, to, widest);
                    int all = foundBits + least[to];
                    int runs = 1 + fewest[to];
                    // A longer first run comes later, so on equal terms it takes the place.
                    if (to == from + 1 || all < least[from] || all == least[from] && runs <= fewest[from]) {
                        least[from] = all;
                        fewest[from] = runs;
                        lengths[from] = to - from;
                        parameters[from] = foundParameter;
                        widths[from] = widest;
                        bits[from] = foundBits;
                    }
                }
            }
            return least[0];
        }

        private void measureGroups() {
            for (int group = 0; group < groups; group++) {
                int ahead = group * SPLITS;
                int behind = ahead + SPLITS;
                for (int parameter = 0; parameter < SPLITS; parameter++) {
                    quotients[behind + parameter] = quotients[ahead + parameter];
                }
                starts[group] = group * GROUP;
                starts[group + 1] = Math.min(many, starts[group] + GROUP);
                int union = 0;
                for (int i = starts[group]; i < starts[group + 1]; i++) {
                    int unsigned = unsigned(residuals[i]);
                    union |= unsigned;
                    for (int parameter = 0; parameter < SPLITS && unsigned >> parameter > 0; parameter++) {
                        quotients[behind + parameter] += unsigned >> parameter;
                    }
                }
                groupWidths[group] = widthOf(union);
            }
        }

        /** W of numbers whose unsigned forms have these bits: those take just as many bits. */
        private static int widthOf(int union) {
            int width = 1;
            while (width < 31 && union >> width > 0) {
                width++;
            }
            return width;
        }

        /** The PARAMETER of the least bits of a RUN of these groups. */
        private void findParameter(int from, int to, int widest) {
            int ahead = from * SPLITS;
            int behind = to * SPLITS;
            // Undivided quotients of 0 together: all are 0, which nothing else packs as short.
            if (quotients[behind] == quotients[ahead]) {
                foundParameter = ZEROS;
                foundBits = RUN_BITS;
                return;
            }
            int numbers = starts[to] - starts[from];
            foundParameter = FIXED;
            foundBits = RUN_BITS + FIXED_BITS + numbers * widest;
            for (int parameter = SPLITS - 1; parameter >= 0; parameter--) {
                int zeros = quotients[behind + parameter] - quotients[ahead + parameter];
                int own = RUN_BITS + zeros + numbers * (1 + parameter);
                if (own <= foundBits) {
                    foundParameter = parameter;
                    foundBits = own;
                }
            }
        }
    }

    /** A ROW of numbers, HOW it is packed, its bits and RUNS. */
    private static final class Row {
        final int[] numbers = new int[MOST_FRAME];
        int many;
        int width;
        int how;
        int bits;
        int runs;
        final int[] runGroups = new int[MOST_GROUPS];
        final int[] runParameters = new int[MOST_GROUPS];
        final int[] runWidths = new int[MOST_GROUPS];
        final int[] runBits = new int[MOST_GROUPS];

        void start(int many, int width) {
            this.many = many;
            this.width = width;
        }

        void choose(Predictors predictors, Cutter cutter, int effort, int usable) {
            runs = 0;
            if (isStill()) {
                how = STILL;
                bits = HOW_BITS + width;
                return;
            }
            int which = 0;
            int least = Integer.MAX_VALUE;
            for (int other = 0; other < PREDICTORS; other++) {
                if ((usable >> other & 1) != 0 && predictors.orders[other] < many) {
                    cutter.load(this, predictors, other);
                    int cost = effort == 0
                            ? cutter.sum
                            : firstBits(predictors.orders[other]) + cutter.cutForLeast();
                    if (cost < least) {
                        least = cost;
                        which = other;
                    }
                }
            }
            how = which;
            cutter.load(this, predictors, which);
            bits = firstBits(predictors.orders[which])
                    + (effort == 0 ? cutter.cutNowhere() : cutter.cutForLeast());
            if (bits > HOW_BITS + many * width) {
                how = PLAIN;
                bits = HOW_BITS + many * width;
            } else {
                keepRuns(cutter);
            }
        }

        private boolean isStill() {
            for (int i = 1; i < many; i++) {
                if (numbers[i] != numbers[0]) {
                    return false;
                }
            }
            return true;
        }

        /** The bits ahead of the RUNS, by a PREDICTOR of an ORDER. */
        int firstBits(int order) {
            return HOW_BITS + order * width;
        }

        private void keepRuns(Cutter cutter) {
            int from = 0;
            for (int run = 0; run < MOST_GROUPS && from < cutter.groups; run++) {
                runGroups[run] = cutter.lengths[from];
                runParameters[run] = cutter.parameters[from];
                runWidths[run] = cutter.widths[from];
                runBits[run] = cutter.bits[from];
                from += cutter.lengths[from];
                runs = run + 1;
            }
        }
    }

    /** A FRAME: all ROWS that a JOIN may have, and its JOIN. */
    private static final class Plan {
        final Cutter cutter = new Cutter();
        final Row left = new Row();
        final Row right = new Row();
        final Row side = new Row();
        final Row middle = new Row();
        boolean two;
        int way;

        void make(Sound sound, Predictors predictors, int size, int number, int effort, int usable) {
            int from = number * size;
            int many = Math.max(0, Math.min(Math.min(size, MOST_FRAME), sound.counts[0] - from));
            left.start(many, sound.width);
            for (int i = 0; i < many; i++) {
                left.numbers[i] = sound.valueAt(0, from + i);
            }
            left.choose(predictors, cutter, effort, usable);
            two = sound.channels == MOST_CHANNELS;
            way = 0;
            if (two) {
                joinRows(sound, from, many);
                right.choose(predictors, cutter, effort, usable);
                side.choose(predictors, cutter, effort, usable);
                middle.choose(predictors, cutter, effort, usable);
                chooseWay();
            }
        }

        private void joinRows(Sound sound, int from, int many) {
            right.start(many, sound.width);
            side.start(many, sound.width + 1);
            middle.start(many, sound.width);
            for (int i = 0; i < many; i++) {
                int l = left.numbers[i];
                int r = sound.valueAt(1, from + i);
                right.numbers[i] = r;
                side.numbers[i] = l - r;
                middle.numbers[i] = l + r >> 1;
            }
        }

        private void chooseWay() {
            for (int other = 1; other < JOINS; other++) {
                if (rowBits(other) < rowBits(way)) {
                    way = other;
                }
            }
        }

        Row firstRow(int join) {
            return join == 2 ? side : join == 3 ? middle : left;
        }

        Row secondRow(int join) {
            return join == 0 || join == 2 ? right : side;
        }

        int rowBits(int join) {
            int bits = firstRow(join).bits;
            return two ? bits + secondRow(join).bits : bits;
        }

        int allBits() {
            return two ? JOIN_BITS + rowBits(way) : rowBits(way);
        }
    }

    /** The bytes into which the sound was packed. */
    private static final class Store {
        final int[] bytes = new int[MOST_STORE];
        int used;
        int spare;

        boolean has(int i) {
            return i >= 0 && i < used && i < bytes.length;
        }

        void putByte(int value) {
            if (used < bytes.length) {
                bytes[used] = value & 255;
                used++;
            }
        }

        /** The highest of the bits comes first. */
        void putBits(int value, int many) {
            for (int bit = many - 1; bit >= 0; bit--) {
                if (spare == 0) {
                    putByte(0);
                    spare = 8;
                }
                spare--;
                if (used > 0) {
                    bytes[used - 1] |= (value >> bit & 1) << spare;
                }
            }
        }

        void endBits() {
            spare = 0;
        }

        void putCheck(int from) {
            int check = checkOf(from, used);
            putByte(check >> 8);
            putByte(check);
        }

        int checkOf(int from, int to) {
            int check = 65535;
            for (int i = from; i < to && has(i); i++) {
                check ^= bytes[i] << 8;
                for (int turn = 0; turn < 8; turn++) {
                    check = check >= 32768 ? (check << 1 ^ 4129) & 65535 : check << 1;
                }
            }
            return check;
        }

        boolean hasCheck(int from, int to) {
            return has(to) && has(to + 1) && checkOf(from, to) == bytes[to] * 256 + bytes[to + 1];
        }
    }

    /** What the STORE alone tells: its HEAD, where FRAMES are GOOD, which are FOUND, what is HEARD. */
    private static final class Reader {
        final Store store = new Store();
        final Predictors predictors = new Predictors();
        int channels;
        int width;
        int size;
        int samples;

        int bit;
        boolean broken;
        final int[] first = new int[MOST_FRAME];
        final int[] second = new int[MOST_FRAME];

        final int[] places = new int[MOST_FRAMES];
        final int[] lengths = new int[MOST_FRAMES];
        final int[] out = new int[MOST_CHANNELS * MOST_SAMPLES];

        /** HEAD; all else here asks that it was called and answered 0. */
        int readHead() {
            if (store.used < HEAD_SIZE) {
                return 1;
            }
            int[] bytes = store.bytes;
            if (bytes[0] != HEAD_FIRST || bytes[1] != HEAD_SECOND) {
                return 2;
            }
            channels = bytes[2];
            width = bytes[3];
            size = bytes[4];
            samples = bytes[5] * 256 + bytes[6];
            boolean can = channels >= 1 && channels <= MOST_CHANNELS && isWidth(width)
                    && isFrame(size) && samples <= MOST_SAMPLES;
            for (int which = FIRST_TOLD; which < PREDICTORS; which++) {
                int at = HEAD_TOLD + (which - FIRST_TOLD) * (TOLD_WEIGHTS + 1);
                can = can && isShift(bytes[at + TOLD_WEIGHTS]);
                predictors.tell(which, (byte) bytes[at], (byte) bytes[at + 1], (byte) bytes[at + 2],
                        bytes[at + TOLD_WEIGHTS]);
            }
            if (!can) {
                return 3;
            }
            return store.hasCheck(0, HEAD_SIZE - CHECK_SIZE) ? 0 : 4;
        }

        private int frames() {
            return size > 0 ? (samples + size - 1) / size : 0;
        }

        /** The number that a FRAME at a place would have; NONE, if none can be there. */
        int numberAt(int place) {
            if (!store.has(place) || !store.has(place + 1) || store.bytes[place] != MARK) {
                return NONE;
            }
            int number = store.bytes[place + 1];
            return number < frames() ? number : NONE;
        }

        /** How many bytes the FRAME has that is GOOD at a place, its SAMPLES being read; NONE: none is. */
        int lengthAt(int place) {
            int number = numberAt(place);
            if (number == NONE) {
                return NONE;
            }
            int many = Math.min(size, samples - number * size);
            bit = (place + 2) * 8;
            broken = false;
            int join = channels == MOST_CHANNELS ? readBits(JOIN_BITS) : 0;
            readRow(first, many, join == 2 ? width + 1 : width);
            if (channels == MOST_CHANNELS) {
                readRow(second, many, join == 1 || join == 3 ? width + 1 : width);
            }
            int end = (bit + 7) / 8;
            if (broken || !store.hasCheck(place, end)) {
                return NONE;
            }
            part(join, many);
            if (!isOfWidth(first, many) || channels == MOST_CHANNELS && !isOfWidth(second, many)) {
                return NONE;
            }
            return end + CHECK_SIZE - place;
        }

        /** Once bits are asked for that the STORE has not, the FRAME is broken, and 0 is read. */
        private int readBits(int many) {
            if (broken || many > store.used * 8 - bit) {
                broken = true;
                return 0;
            }
            int value = 0;
            for (int i = 0; i < many; i++) {
                value = value << 1 | store.bytes[bit >> 3] >> 7 - (bit & 7) & 1;
                bit++;
            }
            return value;
        }

        /** Of no bits, as of zeros alone: 0. */
        private int readSigned(int many) {
            int value = readBits(many);
            return many < 1 ? 0 : value << 32 - many >> 32 - many;
        }

        private int readSplit(int parameter) {
            int zeros = 0;
            while (zeros < MOST_STORE * 8 && !broken && readBits(1) == 0) {
                zeros++;
            }
            int unsigned = (zeros << parameter) + readBits(parameter);
            return (unsigned & 1) == 0 ? unsigned >> 1 : -(unsigned >> 1) - 1;
        }

        private void readRow(int[] numbers, int many, int bits) {
            int how = readBits(HOW_BITS);
            if (how > PLAIN) {
                broken = true;
            } else if (how == STILL) {
                int number = readSigned(bits);
                for (int i = 0; i < many; i++) {
                    numbers[i] = number;
                }
            } else if (how == PLAIN) {
                readNumbers(numbers, many, bits);
            } else if (predictors.orders[how] >= many) {
                broken = true;
            } else {
                readNumbers(numbers, predictors.orders[how], bits);
                readRuns(numbers, many, how);
            }
        }

        private void readNumbers(int[] numbers, int many, int bits) {
            for (int i = 0; i < many; i++) {
                numbers[i] = readSigned(bits);
            }
        }

        private void readRuns(int[] numbers, int many, int which) {
            int from = predictors.orders[which];
            int left = (many - from + GROUP - 1) / GROUP;
            for (int run = 0; run < MOST_GROUPS && left > 0 && !broken; run++) {
                int groups = readBits(GROUPS_BITS) + 1;
                int parameter = readBits(PARAMETER_BITS);
                if (groups > left) {
                    broken = true;
                    return;
                }
                int to = Math.min(many, from + groups * GROUP);
                int fixed = parameter == FIXED ? readBits(FIXED_BITS) : 0;
                for (int i = from; i < to && !broken; i++) {
                    int residual = parameter < SPLITS ? readSplit(parameter) : readSigned(fixed);
                    numbers[i] = predictors.guess(which, numbers, i) + residual;
                }
                from = to;
                left -= groups;
            }
        }

        /** Turns the two ROWS of a JOIN back into the CHANNELS. */
        private void part(int join, int many) {
            for (int i = 0; i < many; i++) {
                int a = first[i];
                int b = second[i];
                if (join == 1) {
                    second[i] = a - b;
                } else if (join == 2) {
                    first[i] = a + b;
                } else if (join == 3) {
                    first[i] = 2 * a + (b & 1) + b >> 1;
                    second[i] = first[i] - b;
                }
            }
        }

        private boolean isOfWidth(int[] numbers, int many) {
            int above = width == 8 ? 128 : 32768;
            for (int i = 0; i < many; i++) {
                if (numbers[i] < -above || numbers[i] >= above) {
                    return false;
                }
            }
            return true;
        }

        /** Looks for the FRAMES, and listens to those that are FOUND. */
        void find() {
            forgetFound();
            int next = 0;
            int behind = HEAD_SIZE;
            for (int place = HEAD_SIZE; place < store.used; place++) {
                int number = place < behind ? NONE : numberAt(place);
                int length = number == NONE || number < next ? NONE : lengthAt(place);
                if (length != NONE) {
                    keepFound(number, place, length);
                    next = number + 1;
                    behind = place + length;
                }
            }
        }

        private void forgetFound() {
            for (int number = 0; number < MOST_FRAMES; number++) {
                places[number] = NONE;
                lengths[number] = NONE;
            }
            for (int i = 0; i < out.length; i++) {
                out[i] = 0;
            }
        }

        private void keepFound(int number, int place, int length) {
            places[number] = place;
            lengths[number] = length;
            int from = number * size;
            int many = Math.min(size, samples - from);
            for (int i = 0; i < many; i++) {
                out[from + i] = first[i];
                if (channels == MOST_CHANNELS) {
                    out[MOST_SAMPLES + from + i] = second[i];
                }
            }
        }
    }
}

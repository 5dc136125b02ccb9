import java.util.NoSuchElementException;

/** Each promise of the document with answers worked out by hand: ordinary calls, edges, wrong inputs. */
public final class PromisesTest {
    private static final int NONE = -1;
    private static final int NO_SAMPLE = Integer.MIN_VALUE;
    private static int wrong = 0;
    private static int asked = 0;
    private static String promise = "";

    /** A call that may throw. */
    private interface Call {
        int answer();
    }

    private static void due(String call, long got, long want) {
        asked++;
        if (got != want) {
            wrong++;
            System.out.println("promise " + promise + ": " + call + " answered " + got + ", due is " + want);
        }
    }

    private static void throwsIt(String call, Call made, Class<?> want) {
        Class<?> got = null;
        try {
            made.answer();
        } catch (RuntimeException thrown) {
            got = thrown.getClass();
        }
        asked++;
        // The very class: a machine's own ArrayIndexOutOfBoundsException would be another one.
        if (got != want) {
            wrong++;
            System.out.println("promise " + promise + ": " + call + " threw " + got + ", due is " + want);
        }
    }

    private static WholeSound sound(int width, int channels) {
        WholeSound x = new WholeSound();
        for (int i = 0; i < channels; i++) {
            x.channel(width);
        }
        return x;
    }

    /** One channel of 16 bits: 0, 3, 6 .. 45. */
    private static WholeSound ramp() {
        WholeSound x = sound(16, 1);
        x.fill(0, 1, 16, 0, 3);
        return x;
    }

    /** One channel of 8 bits, no guessing: 16 zeros, then 100 and -100 in turn. */
    private static WholeSound quietThenLoud() {
        WholeSound x = sound(8, 1);
        x.allow(0);
        x.fill(0, 0, 16, 0, 0);
        x.fill(0, 2, 16, 100, 1);
        return x;
    }

    /** Three frames of 16, each of one value: 1, 2, 3; each packed into 6 bytes from 21 on. */
    private static WholeSound threeFrames() {
        WholeSound x = sound(8, 1);
        x.frame(16);
        x.fill(0, 0, 16, 1, 0);
        x.fill(0, 0, 16, 2, 0);
        x.fill(0, 0, 10, 3, 0);
        x.pack();
        return x;
    }

    public static void main(String[] args) {
        newObject();
        feed();
        channel();
        samples();
        fill();
        fillDrawn();
        fillOther();
        clear();
        settings();
        predictor();
        sample();
        joins();
        rows();
        ties();
        residual();
        triedAndMean();
        leastEffort();
        sizes();
        pack();
        packTwo();
        storeBytes();
        head();
        reading();
        looking();
        hearing();
        forged();
        measures();
        count();
        System.out.println("PromisesTest: " + asked + " answers asked for, " + wrong + " wrong");
        if (wrong != 0) {
            System.exit(1);
        }
    }

    private static void newObject() {
        promise = "1";
        WholeSound x = new WholeSound();
        int[] first = {0, 0, 32, 1, 255, NONE, NONE, 0, 0, 0, 1};
        for (int what = 0; what < first.length; what++) {
            due("count(" + what + ")", x.count(what), first[what]);
        }
        due("NONE", WholeSound.NONE, NONE);
    }

    private static void feed() {
        promise = "2";
        WholeSound x = sound(8, 1);
        for (int i = 1; i <= 10; i++) {
            due("feed", x.feed(0x0102030405060708L, 0x090a0b0c0d0e0f10L, 0x1112131415161718L), 24 * i);
        }
        due("feed", x.feed(0, 0, 0), NONE);
        due("count(9)", x.count(9), 240);
        due("samples", x.samples(0, 240), 240);
        for (int i = 0; i < 240; i++) {
            due("sample", x.sample(0, i), i % 24 + 1);
        }
        due("feed", x.feed(0, 0, 0), 24);
    }

    private static void channel() {
        promise = "3";
        WholeSound x = new WholeSound();
        for (int other : new int[] {0, 7, 9, 15, 17, 32, -8, -16, Integer.MAX_VALUE, Integer.MIN_VALUE}) {
            due("channel", x.channel(other), NONE);
        }
        due("channel(16)", x.channel(16), 0);
        due("channel(8)", x.channel(8), NONE);
        due("channel(16)", x.channel(16), 1);
        due("channel(16)", x.channel(16), NONE);
        due("count(0)", x.count(0), 2);
        due("count(1)", x.count(1), 16);
    }

    private static void samples() {
        promise = "4";
        WholeSound x = sound(16, 1);
        x.feed(0x80007fffffff0001L, 0x0100000000000000L, 0);
        due("samples", x.samples(0, 13), NONE);
        due("samples", x.samples(0, -1), NONE);
        due("samples", x.samples(1, 1), NONE);
        due("samples", x.samples(-1, 1), NONE);
        due("samples", x.samples(0, Integer.MAX_VALUE), NONE);
        due("samples", x.samples(0, Integer.MIN_VALUE), NONE);
        due("count(9)", x.count(9), 24);
        due("samples", x.samples(0, 5), 5);
        due("count(9)", x.count(9), 0);
        int[] want = {-32768, 32767, -1, 1, 256};
        for (int i = 0; i < want.length; i++) {
            due("sample", x.sample(0, i), want[i]);
        }
        x.feed(0, 0, 0);
        due("samples(0, 0)", x.samples(0, 0), 5);
        due("count(9)", x.count(9), 0);

        x = sound(8, 1);
        x.feed(0x807fff0000000000L, 0, 0);
        due("samples", x.samples(0, 24), 24);
        due("sample", x.sample(0, 0), -128);
        due("sample", x.sample(0, 1), 127);
        due("sample", x.sample(0, 2), -1);
        for (int i = 0; i < 3; i++) {
            x.fill(0, 0, 64, 0, 0);
        }
        x.fill(0, 0, 17, 0, 0);
        x.feed(0, 0, 0);
        due("samples beyond 256", x.samples(0, 24), NONE);
        due("count(9)", x.count(9), 24);
        due("samples up to 256", x.samples(0, 23), 256);
        due("samples(0, 0) at 256", x.samples(0, 0), 256);
    }

    private static void fill() {
        promise = "5";
        WholeSound x = sound(8, 1);
        due("kind 0", x.fill(0, 0, 2, 300, 65536), 2);
        due("kind 1", x.fill(0, 1, 4, 100, 20), 6);
        due("kind 2", x.fill(0, 2, 5, -128, 2), 11);
        int[] want = {127, 127, 100, 120, 127, 127, -128, -128, 127, 127, -128};
        for (int i = 0; i < want.length; i++) {
            due("sample " + i, x.sample(0, i), want[i]);
        }
        due("65537", x.fill(0, 0, 1, 65537, 0), NONE);
        due("-65537", x.fill(0, 0, 1, -65537, 0), NONE);
        due("y 65537", x.fill(0, 0, 1, 0, 65537), NONE);
        due("y -65537", x.fill(0, 1, 1, 0, -65537), NONE);
        due("many 0", x.fill(0, 0, 0, 0, 0), NONE);
        due("many 65", x.fill(0, 0, 65, 0, 0), NONE);
        due("kind -1", x.fill(0, -1, 1, 0, 0), NONE);
        due("kind 5", x.fill(0, 5, 1, 0, 0), NONE);
        due("channel 1", x.fill(1, 0, 1, 0, 0), NONE);
        due("channel -1", x.fill(-1, 0, 1, 0, 0), NONE);
        due("kind 2, y 0", x.fill(0, 2, 1, 0, 0), NONE);
        due("kind 2, y 65", x.fill(0, 2, 1, 0, 65), NONE);
        due("kind 2, y 64", x.fill(0, 2, 1, 5, 64), 12);
        due("x 65536", x.fill(0, 0, 1, 65536, -65536), 13);
        due("x -65536", x.fill(0, 0, 1, -65536, 65536), 14);
        due("sample 13", x.sample(0, 13), -128);
        for (int i = 0; i < 3; i++) {
            x.fill(0, 0, 64, 0, 0);
        }
        due("beyond 256", x.fill(0, 0, 51, 0, 0), NONE);
        due("up to 256", x.fill(0, 0, 50, 0, 0), 256);
        due("beyond 256", x.fill(0, 0, 1, 0, 0), NONE);

        x = sound(16, 1);
        x.fill(0, 1, 3, 32766, 1);
        x.fill(0, 1, 3, -32767, -1);
        int[] held = {32766, 32767, 32767, -32767, -32768, -32768};
        for (int i = 0; i < held.length; i++) {
            due("held " + i, x.sample(0, i), held[i]);
        }
    }

    private static void fillDrawn() {
        promise = "5, kind 3";
        WholeSound x = sound(16, 1);
        due("x -1", x.fill(0, 3, 1, -1, 5), NONE);
        due("x 32768", x.fill(0, 3, 1, 32768, 5), NONE);
        due("the SEED stays", x.count(10), 1);
        due("x 32767", x.fill(0, 3, 2, 32767, 0), 2);
        // 1103515245 + 12345 is 1103527590, whose bits 16 to 30 are 16838.
        due("first", x.sample(0, 0), 16838 - 32767);
        int second = 1103515245 * 1103527590 + 12345;
        due("SEED", x.count(10), second);
        due("second", x.sample(0, 1), (second >>> 16 & 32767) - 32767);
        x.fill(0, 3, 1, 5, 1);
        due("by SEED 1", x.sample(0, 2), 16838 % 11 - 5);
        due("SEED", x.count(10), 1103527590);
        x.fill(0, 3, 1, 0, -65536);
        due("x 0", x.sample(0, 3), 0);
        due("SEED", x.count(10), 1103515245 * -65536 + 12345);
        WholeSound narrow = sound(8, 1);
        narrow.fill(0, 3, 1, 32767, 0);
        due("held", narrow.sample(0, 0), -128);
    }

    private static void fillOther() {
        promise = "5, kind 4";
        WholeSound x = sound(8, 2);
        x.fill(0, 1, 8, 10, 10);
        due("y -1", x.fill(1, 4, 1, 0, -1), NONE);
        due("y 256", x.fill(1, 4, 1, 0, 256), NONE);
        due("fill", x.fill(1, 4, 10, 1, 2), 10);
        int[] want = {1, 1, 11, 21, 31, 41, 51, 61, 71, 81};
        for (int i = 0; i < want.length; i++) {
            due("sample " + i, x.sample(1, i), want[i]);
        }
        due("fill", x.fill(1, 4, 1, 60, 3), 11);
        due("held", x.sample(1, 10), 127);
        due("fill", x.fill(1, 4, 1, 7, 3), 12);
        due("beyond the other one", x.sample(1, 11), 7);
        due("fill", x.fill(0, 4, 1, -5, 0), 9);
        due("of the channel behind", x.sample(0, 8), 66);
        due("y 255", x.fill(0, 4, 1, 3, 255), 10);
        due("ahead of the first", x.sample(0, 9), 3);
        WholeSound alone = sound(8, 1);
        alone.fill(0, 0, 2, 50, 0);
        alone.fill(0, 4, 1, 9, 1);
        due("no other channel", alone.sample(0, 2), 9);
    }

    private static void clear() {
        promise = "6";
        WholeSound x = sound(16, 2);
        x.fill(0, 3, 8, 9, 9);
        x.frame(48);
        x.effort(0);
        x.allow(3);
        x.predictor(6, 1, 2, 3, 4);
        x.fill(1, 0, 8, 0, 0);
        int bytes = x.pack();
        x.feed(1, 2, 3);
        due("clear()", x.clear(), 2);
        int[] first = {0, 0, 32, 1, 255, NONE, NONE, 0, bytes, 0, 1};
        for (int what = 0; what < first.length; what++) {
            due("count(" + what + ")", x.count(what), first[what]);
        }
        due("the STORE stays", x.head(), 0);
        due("clear()", x.clear(), 0);
        x.channel(8);
        due("no SAMPLES", x.count(5), 0);
        x.fill(0, 1, 8, 0, 1);
        throwsIt("weights are 0", () -> x.residual(0, 0, 6, 8), IndexOutOfBoundsException.class);
        due("weights are 0", x.residual(0, 0, 6, 7), 7);
    }

    private static void settings() {
        promise = "7";
        WholeSound x = new WholeSound();
        int before = 32;
        for (int n = 16; n <= 64; n += 8) {
            due("frame(" + n + ")", x.frame(n), before);
            before = n;
        }
        for (int n : new int[] {15, 8, 0, -16, 17, 20, 60, 65, 72, Integer.MIN_VALUE, Integer.MAX_VALUE}) {
            due("frame(" + n + ")", x.frame(n), NONE);
        }
        due("count(2)", x.count(2), 64);
        promise = "9";
        due("effort(0)", x.effort(0), 1);
        due("effort(2)", x.effort(2), NONE);
        due("effort(-1)", x.effort(-1), NONE);
        due("effort(1)", x.effort(1), 0);
        due("count(3)", x.count(3), 1);
        promise = "10";
        due("allow(6)", x.allow(6), 255);
        due("allow(256)", x.allow(256), NONE);
        due("allow(-1)", x.allow(-1), NONE);
        due("allow(255)", x.allow(255), 7);
        due("allow(0)", x.allow(0), 255);
        due("count(4)", x.count(4), 1);
    }

    private static void predictor() {
        promise = "8";
        WholeSound x = new WholeSound();
        due("order 3", x.predictor(5, 0, 0, 31, 4), 3);
        due("order 2", x.predictor(6, 1, -31, 0, 0), 2);
        due("order 1", x.predictor(7, -31, 0, 0, 1), 1);
        due("order 0", x.predictor(7, 0, 0, 0, 2), 0);
        due("order 3", x.predictor(7, 1, 0, -1, 0), 3);
        due("which 4", x.predictor(4, 0, 0, 0, 0), NONE);
        due("which 8", x.predictor(8, 0, 0, 0, 0), NONE);
        due("a 32", x.predictor(5, 32, 0, 0, 0), NONE);
        due("b -32", x.predictor(5, 0, -32, 0, 0), NONE);
        due("c 32", x.predictor(5, 0, 0, 32, 0), NONE);
        due("c smallest", x.predictor(5, 0, 0, Integer.MIN_VALUE, 0), NONE);
        due("shift -1", x.predictor(5, 0, 0, 0, -1), NONE);
        due("shift 5", x.predictor(5, 0, 0, 0, 5), NONE);
        x.channel(16);
        x.fill(0, 1, 16, 0, 3);
        // What was refused changed nothing: 5 guesses 31 times the third ahead, 9, shifted by 4: 279 / 16 is 17.
        due("residual", x.residual(0, 0, 5, 6), 18 - 17);
        x.predictor(5, -1, 0, 0, 1);
        // -15 shifted to the right by 1, the sign staying, is -8.
        due("residual", x.residual(0, 0, 5, 6), 18 + 8);
    }

    private static void sample() {
        promise = "11";
        WholeSound x = sound(8, 1);
        x.fill(0, 0, 3, -7, 0);
        due("sample", x.sample(0, 2), -7);
        due("sample", x.sample(0, 3), NO_SAMPLE);
        due("sample", x.sample(0, -1), NO_SAMPLE);
        due("sample", x.sample(1, 0), NO_SAMPLE);
        due("sample", x.sample(-1, 0), NO_SAMPLE);
        due("sample", x.sample(Integer.MAX_VALUE, 0), NO_SAMPLE);
        due("sample", x.sample(0, Integer.MAX_VALUE), NO_SAMPLE);
        due("sample", x.sample(0, Integer.MIN_VALUE), NO_SAMPLE);
    }

    private static void joins() {
        promise = "12, 13";
        WholeSound x = sound(8, 2);
        // Of 8: l is 20, r is 20 and 24 in turn. s: 0, -4 in turn; m: 20, 22 in turn.
        x.allow(0);
        x.fill(0, 0, 8, 20, 0);
        due("not READY", x.join(0), NONE);
        due("not READY", x.joined(0, 0), NONE);
        for (int i = 0; i < 4; i++) {
            x.fill(1, 0, 1, 20, 0);
            x.fill(1, 0, 1, 24, 0);
        }
        // l: 12. r by 0: 14 with W 6: 4 + 12 + 48 = 64; by 5: 4 + 7 + 8 * (1 + 1 + 5) = 67; 4: 4 + 7 + 4 * 7 + 4 * 8 = 71.
        due("joined(0, 0)", x.joined(0, 0), 12 + 64);
        // s by 0, u being 0 and 7: by 0: 4 + 7 + 4 * 1 + 4 * 8 = 47; 1: 11 + 4 * 2 + 4 * 5 = 39; 2: 11 + 4 * 3 + 4 * 4 = 39;
        // 3: 11 + 8 * 4 = 43; 14: 4 + 12 + 8 * 3 = 40.
        due("joined(0, 1)", x.joined(0, 1), 12 + 39);
        due("joined(0, 2)", x.joined(0, 2), 39 + 64);
        // m: u 40 and 44; 14 with W 6: 64; by 5: 4 + 7 + 8 * 7 = 67; by 6: 4 + 7 + 8 * 7 = 67.
        due("joined(0, 3)", x.joined(0, 3), 64 + 39);
        due("join(0)", x.join(0), 1);
        due("row HOW", x.row(0, 1, 0), 0);
        due("lowest parameter of equal ones", x.run(0, 1, 0, 1), 1);
        due("joined(0, 4)", x.joined(0, 4), NONE);
        due("joined(0, -1)", x.joined(0, -1), NONE);
        due("joined(1, 0)", x.joined(1, 0), NONE);
        due("join(1)", x.join(1), NONE);
        due("join(-1)", x.join(-1), NONE);
        WholeSound one = ramp();
        due("one CHANNEL", one.joined(0, 0), 43);
        due("one CHANNEL", one.joined(0, 1), NONE);
        due("one CHANNEL", one.join(0), 0);
    }

    private static void rows() {
        promise = "14, 15";
        WholeSound x = quietThenLoud();
        due("HOW", x.row(0, 0, 0), 0);
        due("bits", x.row(0, 0, 1), 4 + 7 + 140);
        due("RUNS", x.row(0, 0, 2), 2);
        int[][] runs = {{2, 15, 7}, {2, 14, 140}};
        for (int i = 0; i < 2; i++) {
            for (int what = 0; what < 3; what++) {
                due("run " + i + " what " + what, x.run(0, 0, i, what), runs[i][what]);
            }
        }
        due("what 3", x.row(0, 0, 3), NONE);
        due("what -1", x.row(0, 0, -1), NONE);
        due("row 1", x.row(0, 1, 0), NONE);
        due("row -1", x.row(0, -1, 0), NONE);
        due("frame 1", x.row(1, 0, 0), NONE);
        due("frame -1", x.row(-1, 0, 0), NONE);
        due("run 2", x.run(0, 0, 2, 0), NONE);
        due("run -1", x.run(0, 0, -1, 0), NONE);
        due("run what 3", x.run(0, 0, 0, 3), NONE);
        due("run what -1", x.run(0, 0, 0, -1), NONE);
        due("run row 1", x.run(0, 1, 0, 0), NONE);
        due("run frame 1", x.run(1, 0, 0, 0), NONE);
        // PLAIN: 127 and -128 in turn cost 8 bits each and 12 by parameter 14.
        WholeSound plain = sound(8, 1);
        plain.allow(0);
        plain.fill(0, 2, 16, -128, 1);
        due("PLAIN", plain.row(0, 0, 0), 9);
        due("PLAIN bits", plain.row(0, 0, 1), 4 + 16 * 8);
        due("PLAIN RUNS", plain.row(0, 0, 2), 0);
        due("PLAIN run", plain.run(0, 0, 0, 0), NONE);
        // STILL goes ahead of a PREDICTOR of fewer bits: 4 + 7 for zeros by 0.
        WholeSound still = sound(16, 1);
        still.fill(0, 0, 64, 0, 0);
        due("STILL", still.row(1, 0, 0), 8);
        due("STILL bits", still.row(1, 0, 1), 20);
        due("by 0", still.tried(1, 0, 0), 11);
        // One number is STILL always.
        still.fill(0, 0, 1, 9, 0);
        due("one number", still.row(2, 0, 0), 8);
    }

    /** Of cuts of as many bits the fewest RUNS, of these the longest first one. */
    private static void ties() {
        promise = "15, equal bits";
        // Three groups by 0 alone: zeros; 0, then seven of -1 (u 1); zeros: cut at both ends it is 7 + 22 + 7 = 36, a
        // parameter 14 with W 1: 12 + 8 = 20: 7 + 20 + 7 = 34; the first two together: 12 + 16 = 28, and 7: 35.
        WholeSound x = sound(8, 1);
        x.allow(0);
        x.fill(0, 0, 9, 0, 0);
        x.fill(0, 0, 7, -1, 0);
        x.fill(0, 0, 8, 0, 0);
        due("RUNS", x.row(0, 0, 2), 3);
        due("bits", x.row(0, 0, 1), 4 + 34);
        // Two groups of 8: one number 1 (u 2) in each. Parameter 0: 8 + 2 each: 17 apart, 34; together 7 + 20 = 27.
        WholeSound y = sound(8, 1);
        y.allow(0);
        for (int i = 0; i < 2; i++) {
            y.fill(0, 0, 1, 1, 0);
            y.fill(0, 0, 7, 0, 0);
        }
        due("RUNS", y.row(0, 0, 2), 1);
        due("bits", y.row(0, 0, 1), 4 + 27);
        // Zeros, a lone -1 at the front of three groups: 7 + 9 = 16 apart and 7 for the rest: 23; with the second 7 + 17
        // = 24 and 7: 31; all three 7 + 25 = 32.
        WholeSound z = sound(8, 1);
        z.allow(0);
        z.fill(0, 0, 1, -1, 0);
        z.fill(0, 0, 23, 0, 0);
        due("bits", z.row(0, 0, 1), 4 + 23);
        due("first", z.run(0, 0, 0, 0), 1);
        due("second", z.run(0, 0, 1, 0), 2);
        // Eight numbers, then seven zeros: 7 + bits and 7 apart, 7 + bits + 7 together: as many, so one RUN.
        WholeSound one = sound(8, 1);
        one.allow(0);
        one.fill(0, 0, 1, -1, 0);
        one.fill(0, 0, 14, 0, 0);
        due("RUNS of equal bits", one.row(0, 0, 2), 1);
        due("bits of equal bits", one.row(0, 0, 1), 4 + 7 + 16);
        // Eights of -1, 1, 3. Alone: 20 (W 1), 28 (W 2), 36 (W 3). The first two: 12 + 16 * 2 = 44, and 36: 80. The last
        // two: 12 + 16 * 3 = 60, and 20: 80. All: 84, apart: 84. So 2 + 1: of as many RUNS the longest first one.
        WholeSound two = sound(8, 1);
        two.allow(0);
        two.fill(0, 0, 8, -1, 0);
        two.fill(0, 0, 8, 1, 0);
        two.fill(0, 0, 8, 3, 0);
        due("RUNS", two.row(0, 0, 2), 2);
        due("bits", two.row(0, 0, 1), 4 + 80);
        due("longest first", two.run(0, 0, 0, 0), 2);
        due("first", two.run(0, 0, 0, 2), 44);
        due("second", two.run(0, 0, 1, 0), 1);
        // Eights of 5, 2, seven 0 and -1, 2. The first alone: 12 + 8 * 4 = 44, the others together: 12 + 24 * 3 = 84: 128.
        // The first two: 12 + 16 * 4 = 76, then 7 + 7 + 2 = 16 by 0, then 12 + 8 * 3 = 36: 128, too. So the fewest RUNS,
        // though their first one is shorter.
        WholeSound few = sound(8, 1);
        few.allow(0);
        few.fill(0, 0, 8, 5, 0);
        few.fill(0, 0, 8, 2, 0);
        few.fill(0, 0, 7, 0, 0);
        few.fill(0, 0, 1, -1, 0);
        few.fill(0, 0, 8, 2, 0);
        due("bits", few.row(0, 0, 1), 4 + 128);
        due("fewest", few.row(0, 0, 2), 2);
        due("first", few.run(0, 0, 0, 0), 1);
        due("second", few.run(0, 0, 1, 0), 3);
    }

    private static void residual() {
        promise = "16";
        WholeSound x = ramp();
        due("the number", x.residual(0, 0, 4, 3), 9);
        due("by 4", x.residual(0, 0, 4, 4), 0);
        due("by 0", x.residual(0, 0, 0, 15), 45);
        due("by 3", x.residual(0, 0, 3, 1), 3);
        x.allow(1);
        due("not ALLOWED", x.residual(0, 0, 1, 1), 3);
        throwsIt("i 16", () -> x.residual(0, 0, 0, 16), IndexOutOfBoundsException.class);
        throwsIt("i -1", () -> x.residual(0, 0, 0, -1), IndexOutOfBoundsException.class);
        throwsIt("predictor 8", () -> x.residual(0, 0, 8, 0), IndexOutOfBoundsException.class);
        throwsIt("predictor -1", () -> x.residual(0, 0, -1, 0), IndexOutOfBoundsException.class);
        throwsIt("row 1", () -> x.residual(0, 1, 0, 0), IndexOutOfBoundsException.class);
        throwsIt("row -1", () -> x.residual(0, -1, 0, 0), IndexOutOfBoundsException.class);
        throwsIt("frame 1", () -> x.residual(1, 0, 0, 0), IndexOutOfBoundsException.class);
        throwsIt("frame -1", () -> x.residual(-1, 0, 0, 0), IndexOutOfBoundsException.class);
        WholeSound three = sound(8, 1);
        three.fill(0, 1, 3, 1, 1);
        due("order 2 of 3", three.residual(0, 0, 2, 2), 0);
        throwsIt("order 3 of 3", () -> three.residual(0, 0, 3, 0), IndexOutOfBoundsException.class);
        throwsIt("order 4 of 3", () -> three.residual(0, 0, 4, 0), IndexOutOfBoundsException.class);
        throwsIt("no sound", () -> new WholeSound().residual(0, 0, 0, 0), IndexOutOfBoundsException.class);
        // Of a ROW that is joined: s.
        WholeSound two = sound(16, 2);
        two.fill(0, 1, 16, 0, 3);
        two.fill(1, 4, 16, 1, 0);
        due("s", two.residual(0, 1, 0, 7), -1);
    }

    private static void triedAndMean() {
        promise = "17";
        WholeSound x = ramp();
        x.allow(1);
        due("by 1, not ALLOWED", x.tried(0, 0, 1), 4 + 16 + 12 + 15 * 3);
        due("by 2", x.tried(0, 0, 2), 4 + 32 + 7);
        due("8", x.tried(0, 0, 8), NONE);
        due("-1", x.tried(0, 0, -1), NONE);
        due("row 1", x.tried(0, 1, 0), NONE);
        due("frame 1", x.tried(1, 0, 0), NONE);
        promise = "18";
        due("mean", x.mean(0, 0, 0), Float.floatToIntBits(360f / 16));
        due("mean", x.mean(0, 0, 1), Float.floatToIntBits(3f));
        due("mean", x.mean(0, 0, 2), 0);
        due("8", x.mean(0, 0, 8), NONE);
        due("-1", x.mean(0, 0, -1), NONE);
        due("row 1", x.mean(0, 1, 0), NONE);
        due("frame 1", x.mean(1, 0, 0), NONE);
        WholeSound three = sound(8, 1);
        three.fill(0, 1, 3, -10, 3);
        due("a third", three.mean(0, 0, 0), Float.floatToIntBits(21f / 3));
        three.fill(0, 0, 4, 0, 0);
        due("a seventh", three.mean(0, 0, 0), Float.floatToIntBits(21f / 7));
        due("of 6", three.mean(0, 0, 1), Float.floatToIntBits((3 + 3 + 4) / 6f));
        WholeSound small = sound(8, 1);
        small.fill(0, 0, 63, 0, 0);
        small.fill(0, 0, 1, -1, 0);
        small.frame(64);
        due("a 64th", small.mean(0, 0, 0), Float.floatToIntBits(1f / 64));
        WholeSound short3 = sound(8, 1);
        short3.fill(0, 1, 3, 1, 1);
        due("order 3 of 3", short3.tried(0, 0, 3), NONE);
        due("order 3 of 3", short3.mean(0, 0, 3), NONE);
        due("order 2 of 3", short3.tried(0, 0, 2), 4 + 16 + 7);
    }

    private static void leastEffort() {
        promise = "9, EFFORT 0";
        WholeSound x = quietThenLoud();
        x.effort(0);
        // 16 times 100 of 32: 50; 32 is 2 to the power of 5: parameter 6. u: 0, 200, 199: 3 zeros each of the louder.
        due("tried", x.tried(0, 0, 0), 4 + 7 + 32 * 7 + 16 * 3);
        due("PLAIN is less", x.row(0, 0, 0), 9);
        x.clear();
        x.channel(16);
        x.effort(0);
        x.fill(0, 1, 16, 0, 3);
        // The least sum is that of 2: 0; 3 and 4 have it, too.
        due("HOW", x.row(0, 0, 0), 2);
        due("parameter 15", x.run(0, 0, 0, 1), 15);
        due("RUNS", x.row(0, 0, 2), 1);
        x.allow(3);
        // By 1: mean 3, 2 is 2 to the power of 1: parameter 2.
        due("HOW", x.row(0, 0, 0), 1);
        due("GROUPS", x.run(0, 0, 0, 0), 2);
        due("parameter", x.run(0, 0, 0, 1), 2);
        due("bits", x.run(0, 0, 0, 2), 7 + 15 * (1 + 1 + 2));
        x.allow(0);
        // 360 / 16 is 22.5; 16 is 2 to the power of 4.
        due("parameter", x.run(0, 0, 0, 1), 5);
        WholeSound four = sound(8, 1);
        four.effort(0);
        four.allow(2);
        four.fill(0, 1, 16, 0, 4);
        // A mean of 4 is no less than 2 to the power of 2.
        due("a power of 2", four.run(0, 0, 0, 1), 3);
        WholeSound low = sound(8, 1);
        low.effort(0);
        low.allow(0);
        low.fill(0, 0, 15, 0, 0);
        low.fill(0, 0, 1, 7, 0);
        due("mean below 1", low.run(0, 0, 0, 1), 0);
        WholeSound high = sound(16, 1);
        high.effort(0);
        high.allow(0);
        high.fill(0, 2, 16, 32767, 3);
        due("13 at most", high.tried(0, 0, 0), 4 + 7 + 16 * (1 + 13) + 16 * 7);
    }

    private static void sizes() {
        promise = "19";
        WholeSound x = new WholeSound();
        due("size()", x.size(), NONE);
        x.channel(8);
        due("no SAMPLES", x.size(), 21);
        due("pack()", x.pack(), 21);
        x.fill(0, 0, 16, 1, 0);
        x.fill(0, 0, 16, 2, 0);
        x.fill(0, 0, 16, 2, 0);
        // Frame 0 of 16 ones and 16 twos: by 1: 4 + 8, RUNS of 31 residuals: 0, one 1: 7 + 7 + (7 + 8 + 2) apart ..
        x.frame(16);
        due("three STILL", x.size(), 21 + 3 * 6);
        promise = "20";
        due("sized(16)", x.sized(16), 39);
        due("sized(17)", x.sized(17), NONE);
        due("sized(8)", x.sized(8), NONE);
        due("sized(72)", x.sized(72), NONE);
        due("the FRAME stays", x.count(2), 16);
        // Frames 0 to 31 and 32 to 47. By 1: residuals 1 to 15: 0, the 16th 1, 15 of 0: the first group 7, the second
        // (its last number is 1) 7 + 10 and 7 for the rest.
        due("sized(32)", x.sized(32), 21 + (4 + (4 + 8 + 7 + 17 + 7 + 7) / 8) + 6);
        promise = "22";
        // One frame of 48: 43 bits, too: 6 bytes and 4.
        due("sized(48)", x.sized(48), 21 + 10);
        due("best()", x.best(), 48);
        due("best() of none", new WholeSound().best(), NONE);
        // Two FRAMES of 8 would be STILL, of 7 bytes each: but there are none of 8.
        WholeSound eights = sound(16, 1);
        eights.fill(0, 0, 8, 30000, 0);
        eights.fill(0, 0, 8, -30000, 0);
        due("no FRAME of 8", eights.best(), 16);
        promise = "21";
        WholeSound r = ramp();
        due("without(2)", r.without(2), 33);
        due("without(1)", r.without(1), 31);
        due("without(0)", r.without(0), NONE);
        due("without(8)", r.without(8), NONE);
        due("without(-1)", r.without(-1), NONE);
        due("without of none", new WholeSound().without(1), NONE);
        due("ALLOWED stay", r.count(4), 255);
        due("sized of none", new WholeSound().sized(16), NONE);
        WholeSound uneven = sound(8, 2);
        uneven.fill(0, 0, 1, 0, 0);
        due("not READY", uneven.size(), NONE);
        due("not READY", uneven.sized(16), NONE);
        due("not READY", uneven.without(1), NONE);
        due("not READY", uneven.best(), NONE);
        due("not READY", uneven.pack(), NONE);
    }

    private static int check(int[] bytes, int from, int to) {
        int c = 65535;
        for (int i = from; i < to; i++) {
            c ^= bytes[i] * 256;
            for (int k = 0; k < 8; k++) {
                c = c >= 32768 ? (2 * c ^ 4129) % 65536 : 2 * c % 65536;
            }
        }
        return c;
    }

    private static void duePacked(WholeSound x, int[] want, int frameAt) {
        due("pack()", x.pack(), want.length);
        int head = check(want, 0, 19);
        want[19] = head / 256;
        want[20] = head % 256;
        int end = want.length - 2;
        int last = check(want, frameAt, end);
        want[end] = last / 256;
        want[end + 1] = last % 256;
        for (int i = 0; i < want.length; i++) {
            due("store(" + i + ")", x.store(i), want[i]);
        }
        due("size()", x.size(), want.length);
    }

    private static void pack() {
        promise = "23";
        int[] known = "123456789".chars().toArray();
        due("the test's own CHECK", check(known, 0, 9), 0x29b1);
        WholeSound x = ramp();
        x.predictor(5, 1, -1, 0, 3);
        x.predictor(7, -31, 31, 5, 4);
        // 0010, 0 and 3 in 16 bits each, 001, 1111, 00000.
        duePacked(x, new int[] {83, 80, 1, 16, 32, 0, 16, 1, 255, 0, 3, 0, 0, 0, 0, 225, 31, 5, 4, 0, 0,
            165, 0, 0b00100000, 0, 0, 0, 0b00110011, 0b11100000, 0, 0}, 21);
        // 0000, two RUNS: 001 1111; 001 1110, 01000, 100 and -100 in 8 bits.
        WholeSound y = quietThenLoud();
        int[] want = new int[44];
        int[] start = {83, 80, 1, 8, 32, 0, 32, 0, 0, 0, 0, 0, 0, 0, 0, 0, 0, 0, 0, 0, 0, 165, 0};
        System.arraycopy(start, 0, want, 0, start.length);
        StringBuilder bits = new StringBuilder("0000" + "0011111" + "0011110" + "01000");
        for (int i = 0; i < 8; i++) {
            bits.append("01100100").append("10011100");
        }
        bits.append("0");
        for (int i = 0; i < 19; i++) {
            want[23 + i] = Integer.parseInt(bits.substring(8 * i, 8 * i + 8), 2);
        }
        duePacked(y, want, 21);
        due("pack of none", new WholeSound().pack(), NONE);
        WholeSound long256 = sound(8, 1);
        for (int i = 0; i < 4; i++) {
            long256.fill(0, 0, 64, 1, 0);
        }
        due("pack()", long256.pack(), 21 + 8 * 6);
        due("SAMPLES by 256", long256.store(5), 1);
        due("the rest", long256.store(6), 0);
        due("the last FRAME", long256.store(21 + 7 * 6 + 1), 7);
    }

    private static void packTwo() {
        promise = "23, two CHANNELS";
        WholeSound x = sound(8, 2);
        x.allow(0);
        x.fill(0, 0, 8, 20, 0);
        for (int i = 0; i < 4; i++) {
            x.fill(1, 0, 1, 20, 0);
            x.fill(1, 0, 1, 24, 0);
        }
        // JOIN 01; 1000 and 20; 0000, 000 0001, then 0 and -4 in turn: 1 0; 0001 1 (u 7).
        String bits = "01" + "1000" + "00010100" + "0000" + "000" + "0001" + "10" + "00011" + "10" + "00011" + "10" + "00011"
                + "10" + "00011" + "000";
        int[] want = new int[32];
        int[] start = {83, 80, 2, 8, 32, 0, 8, 0, 0, 0, 0, 0, 0, 0, 0, 0, 0, 0, 0, 0, 0, 165, 0};
        System.arraycopy(start, 0, want, 0, start.length);
        for (int i = 0; i < 7; i++) {
            want[23 + i] = Integer.parseInt(bits.substring(8 * i, 8 * i + 8), 2);
        }
        duePacked(x, want, 21);
        due("same()", x.same(), 16);
    }

    private static void storeBytes() {
        promise = "24";
        WholeSound x = threeFrames();
        due("store(0)", x.store(0), 83);
        due("store(38)", x.store(38) >= 0 ? 1 : 0, 1);
        due("store(39)", x.store(39), NONE);
        due("store(-1)", x.store(-1), NONE);
        due("store", x.store(Integer.MAX_VALUE), NONE);
        due("store", x.store(4000), NONE);
        promise = "25";
        due("spoil", x.spoil(1, 255), 80 ^ 255);
        due("spoil", x.spoil(1, 255), 80);
        due("mask 0", x.spoil(1, 0), NONE);
        due("mask 256", x.spoil(1, 256), NONE);
        due("mask -1", x.spoil(1, -1), NONE);
        due("place 39", x.spoil(39, 1), NONE);
        due("place -1", x.spoil(-1, 1), NONE);
        promise = "27";
        due("take(1)", x.take(1), 80);
        due("moved up", x.store(1), 1);
        due("moved up", x.store(20), 165);
        due("moved up", x.store(26), 165);
        due("count(8)", x.count(8), 38);
        due("take(38)", x.take(38), NONE);
        due("take(-1)", x.take(-1), NONE);
        due("take(0)", x.take(0), 83);
        promise = "26";
        due("drop(-1)", x.drop(-1), NONE);
        due("drop(38)", x.drop(38), NONE);
        due("drop(0)", x.drop(0), 37);
        due("drop(36)", x.drop(36), 1);
        due("store(0)", x.store(0), 1);
        due("store(1)", x.store(1), NONE);
        due("drop(1)", x.drop(1), 0);
        due("drop(0)", x.drop(0), 0);
        due("drop(1)", x.drop(1), NONE);
        due("pack() anew", x.pack(), 39);
        due("good()", x.good(), 7);
    }

    /** Writes a byte, and mends the CHECK of the HEAD. */
    private static void setHead(WholeSound x, int place, int value) {
        set(x, place, value);
        mend(x, 0, 19);
    }

    private static void set(WholeSound x, int place, int value) {
        if (x.store(place) != value) {
            x.spoil(place, x.store(place) ^ value);
        }
    }

    private static void mend(WholeSound x, int from, int to) {
        int[] bytes = new int[to];
        for (int i = 0; i < to; i++) {
            bytes[i] = x.store(i);
        }
        int check = check(bytes, from, to);
        set(x, to, check / 256);
        set(x, to + 1, check % 256);
    }

    private static void head() {
        promise = "28";
        due("no STORE", new WholeSound().head(), 1);
        // A place, a value and the HEAD that it makes, its CHECK being right.
        int[][] made = {{0, 84, 2}, {1, 81, 2}, {2, 0, 3}, {2, 2, 0}, {2, 3, 3}, {3, 16, 0}, {3, 9, 3}, {3, 0, 3},
            {4, 8, 3}, {4, 64, 0}, {4, 72, 3}, {4, 20, 3}, {4, 0, 3}, {5, 1, 3}, {5, 2, 3}, {6, 0, 0}, {6, 255, 0},
            {7, 128, 0}, {9, 127, 0}, {10, 4, 0}, {10, 5, 3}, {14, 4, 0}, {14, 5, 3}, {18, 4, 0}, {18, 255, 3}};
        for (int[] each : made) {
            WholeSound x = threeFrames();
            setHead(x, each[0], each[1]);
            due("head() by " + each[0] + ": " + each[1], x.head(), each[2]);
            if (each[2] != 0) {
                due("good()", x.good(), NONE);
                due("seek(0, 0)", x.seek(0, 0), NONE);
                due("holds(0)", x.holds(0), NONE);
                due("near(0)", x.near(0), NONE);
                due("at(21)", x.at(21), NONE);
                due("same()", x.same(), NONE);
                throwsIt("heard(0, 0)", () -> x.heard(0, 0), NoSuchElementException.class);
            }
        }
        WholeSound x = threeFrames();
        setHead(x, 5, 1);
        setHead(x, 6, 0);
        due("256 SAMPLES", x.head(), 0);
        x.spoil(19, 1);
        due("another CHECK", x.head(), 4);
        x.spoil(3, 1);
        due("the least of several", x.head(), 3);
        x.spoil(0, 1);
        due("the least of several", x.head(), 2);
        x.drop(x.count(8) - 20);
        due("the least of several", x.head(), 1);
        WholeSound bare = sound(16, 2);
        bare.pack();
        due("the HEAD alone", bare.head(), 0);
        due("no FRAMES", bare.good(), 0);
        due("near", bare.near(0), NONE);
    }

    private static void reading() {
        promise = "29, 30";
        WholeSound x = threeFrames();
        due("good()", x.good(), 7);
        for (int number = 0; number < 3; number++) {
            due("place", x.seek(number, 0), 21 + 6 * number);
            due("bytes", x.seek(number, 1), 6);
        }
        due("seek(3, 0)", x.seek(3, 0), NONE);
        due("seek(-1, 0)", x.seek(-1, 0), NONE);
        due("seek(16, 0)", x.seek(16, 0), NONE);
        due("seek(0, 2)", x.seek(0, 2), NONE);
        due("seek(0, -1)", x.seek(0, -1), NONE);
        x.spoil(30, 4);
        due("the second is spoilt", x.good(), 5);
        due("seek(1, 0)", x.seek(1, 0), NONE);
        due("seek(1, 1)", x.seek(1, 1), NONE);
        due("seek(2, 0)", x.seek(2, 0), 33);
        due("taken out", x.take(27) , 165);
        due("good()", x.good(), 5);
        due("seek(2, 0)", x.seek(2, 0), 32);
        x.drop(1);
        due("cut short", x.good(), 1);
        // The FRAMES in another order: 1, 0, 2. Behind 1 no 0 is FOUND.
        WholeSound turned = threeFrames();
        for (int i = 0; i < 6; i++) {
            int a = turned.store(21 + i);
            int b = turned.store(27 + i);
            set(turned, 21 + i, b);
            set(turned, 27 + i, a);
        }
        due("good()", turned.good(), 6);
        due("near(22)", turned.near(22), 27);
        due("at(27)", turned.at(27), 0);
        due("heard", turned.heard(0, 0), 0);
        due("heard", turned.heard(0, 16), 2);
        // The same number twice: the first one is FOUND.
        WholeSound twice = threeFrames();
        for (int i = 0; i < 6; i++) {
            set(twice, 27 + i, twice.store(21 + i));
        }
        due("good()", twice.good(), 5);
        due("seek(0, 0)", twice.seek(0, 0), 21);
    }

    private static void looking() {
        promise = "31";
        WholeSound x = threeFrames();
        due("holds(0)", x.holds(0), 0);
        due("holds(15)", x.holds(15), 0);
        due("holds(16)", x.holds(16), 1);
        due("holds(41)", x.holds(41), 2);
        due("holds(42)", x.holds(42), NONE);
        due("holds(-1)", x.holds(-1), NONE);
        x.clear();
        due("by the HEAD alone", x.holds(16), 1);
        promise = "32";
        due("near(0)", x.near(0), 21);
        due("near(21)", x.near(21), 21);
        due("near(22)", x.near(22), 27);
        due("near(33)", x.near(33), 33);
        due("near(34)", x.near(34), NONE);
        due("near(38)", x.near(38), NONE);
        due("near(39)", x.near(39), NONE);
        due("near(-1)", x.near(-1), NONE);
        due("near", x.near(Integer.MAX_VALUE), NONE);
        promise = "33";
        due("at(21)", x.at(21), 0);
        due("at(27)", x.at(27), 1);
        due("at(33)", x.at(33), 2);
        due("at(22)", x.at(22), NONE);
        due("at(38)", x.at(38), NONE);
        due("at(39)", x.at(39), NONE);
        due("at(-1)", x.at(-1), NONE);
        due("at", x.at(Integer.MAX_VALUE), NONE);
    }

    private static void hearing() {
        promise = "34";
        WholeSound x = threeFrames();
        due("heard", x.heard(0, 0), 1);
        due("heard", x.heard(0, 31), 2);
        due("heard", x.heard(0, 41), 3);
        throwsIt("i 42", () -> x.heard(0, 42), NoSuchElementException.class);
        throwsIt("i -1", () -> x.heard(0, -1), NoSuchElementException.class);
        throwsIt("channel 1", () -> x.heard(1, 0), NoSuchElementException.class);
        throwsIt("channel -1", () -> x.heard(-1, 0), NoSuchElementException.class);
        throwsIt("no STORE", () -> new WholeSound().heard(0, 0), NoSuchElementException.class);
        promise = "35";
        due("same()", x.same(), 42);
        x.spoil(30, 4);
        due("same()", x.same(), 26);
        due("heard", x.heard(0, 20), 0);
        x.clear();
        due("no CHANNEL", x.same(), 0);
        x.channel(16);
        x.channel(16);
        x.fill(0, 0, 20, 1, 0);
        x.fill(1, 0, 30, 1, 0);
        due("of those that both have", x.same(), 16);
        x.fill(0, 0, 20, 0, 0);
        due("0 of what is not FOUND", x.same(), 16 + 12);
        x.fill(0, 0, 64, 3, 0);
        due("no more than the HEAD has", x.same(), 16 + 12 + 2);
        // All four JOINS come back, odd and negative sums too.
        WholeSound two = sound(16, 2);
        two.frame(16);
        two.fill(0, 3, 64, 9, 5);
        two.fill(1, 4, 16, 3, 0);
        two.fill(1, 3, 16, 32767, 0);
        two.fill(1, 0, 16, -32768, 0);
        two.fill(1, 4, 16, 1, 0);
        two.pack();
        due("same()", two.same(), 128);
        due("good()", two.good(), 15);
    }

    /** Writes a FRAME of number 0 at place 21, bits as told, its CHECK right; the STORE has room. */
    private static WholeSound withFrame(int width, int channels, int samples, String bits) {
        WholeSound x = sound(width, channels);
        for (int channel = 0; channel < channels; channel++) {
            x.fill(channel, 3, 64, width == 8 ? 127 : 32767, 77 + channel);
        }
        x.frame(64);
        x.pack();
        setHead(x, 6, samples);
        rewrite(x, bits);
        return x;
    }

    private static void rewrite(WholeSound x, String bits) {
        String padded = bits + "0".repeat((8 - bits.length() % 8) % 8);
        for (int i = 0; i < padded.length() / 8; i++) {
            set(x, 23 + i, Integer.parseInt(padded.substring(8 * i, 8 * i + 8), 2));
        }
        mend(x, 21, 23 + padded.length() / 8);
    }

    private static void forged() {
        promise = "29 to 34, GOOD";
        due("STILL", withFrame(8, 1, 9, "1000" + "11111111").at(21), 0);
        due("HOW 10", withFrame(8, 1, 9, "1010" + "11111111").at(21), NONE);
        due("HOW 15", withFrame(8, 1, 9, "1111" + "11111111").at(21), NONE);
        due("HOW 10, no more", withFrame(8, 1, 9, "1010").at(21), NONE);
        due("HOW 15, no more", withFrame(8, 1, 9, "1111").at(21), NONE);
        WholeSound w0 = withFrame(8, 1, 9, "0001" + "00000101" + "000" + "1110" + "00000");
        due("W of 0", w0.at(21), 0);
        due("W of 0", w0.heard(0, 8), 5);
        due("zeros", withFrame(8, 1, 9, "0001" + "00000101" + "000" + "1111").heard(0, 8), 5);
        due("two GROUPS of one", withFrame(8, 1, 9, "0001" + "00000101" + "001" + "1111").at(21), NONE);
        due("two GROUPS of two", withFrame(8, 1, 10, "0001" + "00000101" + "001" + "1111").at(21), 0);
        due("two GROUPS behind one of two",
                withFrame(8, 1, 10, "0001" + "00000101" + "000" + "1111" + "001" + "1111").at(21), NONE);
        due("eight RUNS", withFrame(8, 1, 64, "0000" + "0001111".repeat(8)).at(21), 0);
        due("seven RUNS of eight", withFrame(8, 1, 64, "0000" + "0001111".repeat(7)).at(21), NONE);
        due("ORDER 4 of 4", withFrame(8, 1, 4, "0100" + "00000001".repeat(4)).at(21), NONE);
        due("ORDER 4 of 4, no more", withFrame(8, 1, 4, "0100").at(21), NONE);
        due("ORDER 4 of 5", withFrame(8, 1, 5, "0100" + "00000001".repeat(4) + "0001111").heard(0, 4), 1);
        // By 2 of 0 and 100: 200 is not of the WIDTH; with a residual of -73 it is 127, with -72 it is not.
        String two = "0010" + "00000000" + "01100100" + "000" + "1110" + "01000";
        due("127", withFrame(8, 1, 3, two + "10110111").heard(0, 2), 127);
        due("128", withFrame(8, 1, 3, two + "10111000").at(21), NONE);
        due("by 16 bits", withFrame(16, 1, 3, "0010" + "0".repeat(16) + "0".repeat(9) + "1100100" + "0001110"
                + "01000" + "10111000").heard(0, 2), 128);
        // By 0, W of 9: 127 and 128, -128 and -129 as the first of two.
        String none = "0000" + "000" + "1110" + "01001";
        due("127", withFrame(8, 1, 2, none + "001111111" + "000000000").heard(0, 0), 127);
        due("128", withFrame(8, 1, 2, none + "010000000" + "000000000").at(21), NONE);
        due("-128", withFrame(8, 1, 2, none + "110000000" + "000000000").heard(0, 0), -128);
        due("-129", withFrame(8, 1, 2, none + "101111111" + "000000000").at(21), NONE);
        due("-129 last", withFrame(8, 1, 2, none + "000000000" + "101111111").at(21), NONE);
        // The same of 16 bits, W of 17.
        String none16 = "0000" + "000" + "1110" + "10001";
        due("32767", withFrame(16, 1, 1, none16 + "00" + "1".repeat(15)).heard(0, 0), 32767);
        due("32768", withFrame(16, 1, 1, none16 + "01" + "0".repeat(15)).at(21), NONE);
        due("-32768", withFrame(16, 1, 1, none16 + "11" + "0".repeat(15)).heard(0, 0), -32768);
        due("-32769", withFrame(16, 1, 1, none16 + "10" + "1".repeat(15)).at(21), NONE);
        // W of 31, and ints that wrap: 2 * (2 to the power of 30) - 0 wraps to the lowest int, and no sample is of it.
        String wide = "0001" + "00000000" + "000" + "1110" + "11111";
        due("W of 31", withFrame(8, 1, 2, wide + "1".repeat(31)).heard(0, 1), -1);
        due("W of 31, great", withFrame(8, 1, 2, wide + "0" + "1".repeat(30)).at(21), NONE);
        // Two CHANNELS: m of -1, s of 1: l is (-2 + 1 + 1) / 2 = 0, r is -1. s of -3: (-2 + 1 - 3) / 2 = -2, r is 1.
        WholeSound ms = withFrame(8, 2, 9, "11" + "1000" + "11111111" + "1000" + "000000001");
        due("l", ms.heard(0, 3), 0);
        due("r", ms.heard(1, 3), -1);
        ms = withFrame(8, 2, 9, "11" + "1000" + "11111111" + "1000" + "111111101");
        due("l", ms.heard(0, 3), -2);
        due("r", ms.heard(1, 3), 1);
        WholeSound ls = withFrame(8, 2, 9, "01" + "1000" + "00000101" + "1000" + "000000111");
        due("l", ls.heard(0, 0), 5);
        due("r", ls.heard(1, 0), -2);
        WholeSound sr = withFrame(8, 2, 9, "10" + "1000" + "111111101" + "1000" + "00000101");
        due("l", sr.heard(0, 0), 2);
        due("r", sr.heard(1, 0), 5);
        due("l beyond", withFrame(8, 2, 9, "10" + "1000" + "001111111" + "1000" + "00000001").at(21), NONE);
        due("r beyond", withFrame(8, 2, 9, "01" + "1000" + "01111111" + "1000" + "111111111").at(21), NONE);
        // What fills up the last byte is not asked for: the CHECK alone is.
        WholeSound filled = withFrame(8, 1, 9, "1000" + "11111111" + "1111");
        due("filled up by ones", filled.at(21), 0);
        // A weight of -128 in the HEAD: the second is -128 times 1, shifted by 4: -8.
        WholeSound weighed = withFrame(8, 1, 2, "1001" + "0".repeat(16));
        setHead(weighed, 7, 128);
        setHead(weighed, 10, 4);
        rewrite(weighed, "0101" + "00000001" + "0001111");
        due("a weight of -128", weighed.heard(0, 1), -8);
        due("number 1 of 1", numbered(9, 1).at(21), NONE);
        due("number 0 of 1", numbered(9, 0).at(21), 0);
        due("number 1 of 1, whole", numbered(64, 1).at(21), NONE);
        due("number 1 of 2", numbered(65, 1).at(21), 1);
        due("number 0 of none", numbered(0, 0).at(21), NONE);
        // A number of 31 bits is begun, but the STORE ends behind 16 of them, which would be the right CHECK.
        WholeSound cut = withFrame(8, 1, 2, "0001" + "00000000" + "000" + "1110" + "11111");
        cut.drop(cut.count(8) - 28);
        due("cut short", cut.at(21), NONE);
        inside();
    }

    private static WholeSound numbered(int samples, int number) {
        WholeSound x = withFrame(8, 1, samples, "1000" + "11111111");
        set(x, 22, number);
        rewrite(x, "1000" + "11111111");
        return x;
    }

    /** A FRAME inside another: it is GOOD where it is, but looking goes on right behind the outer one. */
    private static void inside() {
        WholeSound x = withFrame(8, 1, 64, "1000" + "11111111");
        setHead(x, 4, 16);
        int[] bytes = {165, 1, 0b10000000, 0b01010000};
        int check = check(bytes, 0, 4);
        StringBuilder bits = new StringBuilder("1001" + "0000");
        for (int each : new int[] {165, 1, 0b10000000, 0b01010000, check / 256, check % 256}) {
            bits.append(Integer.toBinaryString(256 + each).substring(1));
        }
        bits.append("0".repeat(4 + 16 * 8 - bits.length()));
        rewrite(x, bits.toString());
        x.drop(x.count(8) - 42);
        due("outer", x.at(21), 0);
        due("inner", x.at(24), 1);
        due("near(22)", x.near(22), 24);
        due("good()", x.good(), 1);
        due("seek(0, 1)", x.seek(0, 1), 21);
        due("seek(1, 0)", x.seek(1, 0), NONE);
        due("heard", x.heard(0, 16), 0);
        x.spoil(40, 1);
        due("the outer one is spoilt", x.good(), 2);
        due("heard", x.heard(0, 16), 5);
    }

    private static void measures() {
        promise = "36";
        WholeSound x = ramp();
        due("ratio()", x.ratio(), Float.floatToIntBits(31f / 32));
        due("no CHANNEL", new WholeSound().ratio(), NONE);
        due("no SAMPLES", sound(8, 1).ratio(), NONE);
        WholeSound two = sound(8, 2);
        two.fill(0, 0, 7, 1, 0);
        due("not READY", two.ratio(), NONE);
        two.fill(1, 0, 7, 1, 0);
        // JOIN 0: 2 + 12 + 12 bits.
        due("ratio()", two.ratio(), Float.floatToIntBits((21 + 4 + 4) / 14f));
        promise = "37";
        WholeSound y = sound(16, 2);
        y.fill(0, 1, 3, 5, 1);
        long third = Double.doubleToLongBits((25 + 36 + 49) / 3.0);
        due("upper", y.loud(0, 0), (int) (third >> 32));
        due("lower", y.loud(0, 1), (int) third);
        throwsIt("no SAMPLES", () -> y.loud(1, 0), NoSuchElementException.class);
        WholeSound single = sound(8, 1);
        single.fill(0, 0, 1, 3, 0);
        due("one SAMPLE", single.loud(0, 0), (int) (Double.doubleToLongBits(9.0) >> 32));
        due("one SAMPLE's ratio", single.ratio(), Float.floatToIntBits(27f));
        throwsIt("what 2", () -> y.loud(0, 2), NoSuchElementException.class);
        throwsIt("what -1", () -> y.loud(0, -1), NoSuchElementException.class);
        throwsIt("channel 2", () -> y.loud(2, 0), NoSuchElementException.class);
        throwsIt("channel -1", () -> y.loud(-1, 0), NoSuchElementException.class);
        y.fill(1, 0, 64, -32768, 0);
        due("loudest", y.loud(1, 0), (int) (Double.doubleToLongBits(1073741824.0) >> 32));
        due("loudest", y.loud(1, 1), 0);
        WholeSound still = sound(8, 1);
        still.fill(0, 0, 5, 0, 0);
        due("0", still.loud(0, 0), 0);
        due("0", still.loud(0, 1), 0);
        still.fill(0, 0, 64, 0, 0);
        still.fill(0, 0, 64, 0, 0);
        still.fill(0, 0, 1, 1, 0);
        long small = Double.doubleToLongBits(1 / 134.0);
        due("below 1", still.loud(0, 0), (int) (small >> 32));
        due("below 1", still.loud(0, 1), (int) small);
    }

    private static void count() {
        promise = "38";
        WholeSound x = sound(16, 2);
        x.fill(0, 3, 64, 5, 9);
        x.frame(24);
        x.effort(0);
        x.allow(8);
        x.feed(0, 0, 0);
        due("CHANNELS", x.count(0), 2);
        due("WIDTH", x.count(1), 16);
        due("FRAME", x.count(2), 24);
        due("EFFORT", x.count(3), 0);
        due("ALLOWED", x.count(4), 9);
        due("SAMPLES", x.count(5), 64);
        due("SAMPLES", x.count(6), 0);
        due("FRAMES of what is not READY", x.count(7), 0);
        due("TAPE", x.count(9), 24);
        x.fill(1, 0, 64, 0, 0);
        due("FRAMES", x.count(7), 3);
        x.pack();
        due("STORE", x.count(8), x.size());
        due("11", x.count(11), NONE);
        due("-1", x.count(-1), NONE);
        due("least", x.count(Integer.MIN_VALUE), NONE);
    }
}

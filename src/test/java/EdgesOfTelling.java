import java.lang.reflect.InvocationTargetException;
import java.lang.reflect.Method;
import java.lang.reflect.Modifier;
import java.util.NoSuchElementException;

/** Boundary cases of what is told: the document's first lines, part 1 of its terms, promises 1 to 11. */
final class EdgesOfTelling {
    private static final int NONE = Edges.NONE;
    private static final int LOWEST = Integer.MIN_VALUE;
    private static final int HIGHEST = Integer.MAX_VALUE;

    private EdgesOfTelling() {
    }

    static void all() {
        calls();
        tapeAndChannels();
        settings();
        predictors();
        guesses();
        ready();
        newObject();
        feed();
        channel();
        samples();
        samplesRefused();
        fill();
        fillKinds();
        fillDrawn();
        fillOther();
        fillRefused();
        clear();
        frame();
        predictor();
        effortAndAllow();
        sample();
    }

    // ---- the first lines ----

    private static void calls() {
        Edges.in("What it is");
        Edges.tells("Sound packed whole: whole-number predictors tried per frame, residual runs cut for least bits, "
                + "channels joined, seeking by frame.");
        Edges.says("An object is used for at most 512 calls after it has been made; what later calls answer is free.");
        WholeSound x = afterCalls(511);
        Edges.due("the 512th call, of count(8)", x.count(8), 21 + 8 * 6);
        x = afterCalls(511);
        Edges.due("the 512th call, of good()", x.good(), 255);
        x = afterCalls(511);
        Edges.due("the 512th call, of heard(0, 255)", x.heard(0, 255), 1);
        x = afterCalls(511);
        Edges.due("the 512th call, of best()", x.best(), 64);
        x = afterCalls(511);
        Edges.due("the 512th call, of pack()", x.pack(), 21 + 8 * 6);
        x = afterCalls(511);
        Edges.due("the 512th call, of sample(0, 255)", x.sample(0, 255), 1);
        x = afterCalls(511);
        Edges.due("the 512th call, of feed", x.feed(1, 2, 3), 24);
        laterCalls(afterCalls(512));
    }

    /** 256 SAMPLES of 1, packed, and so many calls in all; the STORE is spoilt and mended by turns. */
    private static WholeSound afterCalls(int calls) {
        WholeSound x = Edges.sound(8, 1);
        for (int i = 0; i < 4; i++) {
            x.fill(0, 0, 64, 1, 0);
        }
        x.pack();
        int made = 6;
        for (; made + 2 <= calls; made += 2) {
            x.spoil(30, 255);
            x.spoil(30, 255);
        }
        for (; made < calls; made++) {
            x.size();
        }
        return x;
    }

    /** Later answers are free, but nothing that the document does not name may be thrown. */
    private static void laterCalls(WholeSound x) {
        int[] wild = {0, LOWEST, 1, HIGHEST, -1, 64, 5, 255};
        int strange = 0;
        for (Method method : WholeSound.class.getDeclaredMethods()) {
            if (Modifier.isPublic(method.getModifiers())) {
                for (int turn = 0; turn < 64; turn++) {
                    strange += isStrange(x, method, wild, turn) ? 1 : 0;
                }
            }
        }
        Edges.due("exceptions that are not named, of later calls", strange, 0);
    }

    private static boolean isStrange(WholeSound x, Method method, int[] wild, int turn) {
        Object[] args = new Object[method.getParameterCount()];
        for (int i = 0; i < args.length; i++) {
            int each = wild[(turn * (2 * i + 1) + turn / 8 + i) % wild.length];
            args[i] = method.getParameterTypes()[i] == long.class ? (Object) (long) each : (Object) each;
        }
        try {
            method.invoke(x, args);
        } catch (InvocationTargetException thrown) {
            Class<?> got = thrown.getCause().getClass();
            return got != IndexOutOfBoundsException.class && got != NoSuchElementException.class;
        } catch (IllegalAccessException never) {
            return true;
        }
        return false;
    }

    // ---- terms, part 1 ----

    private static void tapeAndChannels() {
        Edges.in("Terms");
        Edges.tells("An object holds a sound of one or two channels, by which it would be packed, and a store of bytes into "
                + "which it was packed: what each frame costs joined in each way, each row by each predictor, where its "
                + "residuals are cut into runs and by which parameter; the bytes, spoilt, cut short, taken out; which frames "
                + "are good still, where the next good one begins, what is heard.");
        Edges.in("Terms 1");
        Edges.says("The TAPE has at most 240 bytes (none at first).");
        WholeSound x = Edges.sound(8, 1);
        Edges.due("none at first", x.count(9), 0);
        Edges.due("not one byte at first", x.samples(0, 1), NONE);
        for (int i = 1; i <= 10; i++) {
            Edges.due("feed " + i, x.feed(0, 0, i), 24 * i);
        }
        Edges.due("feed 11", x.feed(-1, -1, -1), NONE);
        Edges.due("count(9)", x.count(9), 240);
        Edges.due("all 240 bytes", x.samples(0, 240), 240);
        Edges.due("the last byte", x.sample(0, 239), 10);
        Edges.due("the last byte but 24", x.sample(0, 215), 9);

        Edges.says("CHANNELS: 0, 1 or 2, numbered as told, of one WIDTH, 8 or 16 bits:");
        for (int width : new int[] {8, 16}) {
            x = new WholeSound();
            Edges.due("no CHANNEL", x.count(0), 0);
            Edges.due("the first", x.channel(width), 0);
            Edges.due("one CHANNEL", x.count(0), 1);
            Edges.due("of another WIDTH", x.channel(24 - width), NONE);
            Edges.due("the second", x.channel(width), 1);
            Edges.due("two CHANNELS", x.count(0), 2);
            Edges.due("the third", x.channel(width), NONE);
            Edges.due("two CHANNELS still", x.count(0), 2);
            Edges.due("WIDTH", x.count(1), width);
        }

        Edges.says("SAMPLES from - 2 to the power of (WIDTH - 1) to that less 1, 256 at most each;");
        for (int width : new int[] {8, 16}) {
            int half = width == 8 ? 128 : 32768;
            x = Edges.sound(width, 2);
            Edges.put(x, 1, -half, half - 1);
            Edges.due("lowest", x.sample(1, 0), -half);
            Edges.due("highest", x.sample(1, 1), half - 1);
            for (int i = 0; i < 8; i++) {
                x.fill(i / 4, 0, 64, 0, 0);
            }
            Edges.due("256 of the first", x.count(5), 256);
            Edges.due("the second, 64 of which were too many", x.count(6), 194);
            Edges.due("the last 62", x.fill(1, 0, 62, 3, 0), 256);
            Edges.due("the first is full", x.fill(0, 0, 1, 0, 0), NONE);
            Edges.due("the second is full", x.fill(1, 0, 1, 0, 0), NONE);
            Edges.due("256 and 256", x.count(5) + x.count(6), 512);
            Edges.due("the last", x.sample(1, 255), 3);
            Edges.due("none behind it", x.sample(1, 256), Edges.NO_SAMPLE);
        }

        Edges.says("what is less or more is HELD to the nearer of both.");
        for (int width : new int[] {8, 16}) {
            int half = width == 8 ? 128 : 32768;
            x = Edges.of(width, -half - 1, -half, half - 1, half, -65536, 65536);
            int[] want = {-half, -half, half - 1, half - 1, -half, half - 1};
            for (int i = 0; i < want.length; i++) {
                Edges.due("sample " + i, x.sample(0, i), want[i]);
            }
        }
    }

    private static void settings() {
        Edges.says("FRAME: 16 to 64, a multiple of 8 (32 at first).");
        WholeSound x = new WholeSound();
        Edges.due("at first", x.count(2), 32);
        for (int n = -8; n <= 80; n++) {
            boolean can = n >= 16 && n <= 64 && n % 8 == 0;
            int before = x.count(2);
            Edges.due("frame(" + n + ")", x.frame(n), can ? before : NONE);
            Edges.due("FRAME behind " + n, x.count(2), can ? n : before);
        }

        Edges.says("EFFORT 0, 1 (1 at first).");
        x = new WholeSound();
        Edges.due("at first", x.count(3), 1);
        for (int effort : new int[] {-1, 2, 0, -1, 2, 1}) {
            boolean can = effort == 0 || effort == 1;
            int before = x.count(3);
            Edges.due("effort(" + effort + ")", x.effort(effort), can ? before : NONE);
            Edges.due("EFFORT behind " + effort, x.count(3), can ? effort : before);
        }

        Edges.says("ALLOWED: PREDICTORS, as bits, 0 always (all at first).");
        x = new WholeSound();
        Edges.due("at first", x.count(4), 255);
        for (int set : new int[] {0, 1, 2, 128, 254, 255}) {
            x.allow(set);
            Edges.due("ALLOWED behind " + set, x.count(4), set | 1);
        }
        // 0, 3, 6 ..: by 2 if it is ALLOWED; 0 is there even if it was not told.
        x = ramp(16);
        x.allow(0);
        Edges.due("HOW by 0 alone", x.row(0, 0, 0), 0);
        x.allow(4);
        Edges.due("HOW by 0 and 2", x.row(0, 0, 0), 2);
    }

    /** One CHANNEL of 16 bits: 0, 3, 6 .. */
    private static WholeSound ramp(int many) {
        WholeSound x = Edges.sound(16, 1);
        x.fill(0, 1, many, 0, 3);
        return x;
    }

    private static void predictors() {
        Edges.says("PREDICTORS 0 to 7, each of an ORDER: of 0, 1, 2, 3, 4 in turn the weights are none; 1; 2, -1; 3, -3, 1; "
                + "4, -6, 4, -1;");
        int[] v = {1, 10, 100, 1000, 10000, 7};
        int[][] weights = {{}, {1}, {2, -1}, {3, -3, 1}, {4, -6, 4, -1}};
        for (int which = 0; which < weights.length; which++) {
            for (int i = 0; i < v.length; i++) {
                int want = v[i];
                for (int k = 0; i >= weights[which].length && k < weights[which].length; k++) {
                    want -= weights[which][k] * v[i - 1 - k];
                }
                int predictor = which;
                int at = i;
                Edges.asks("residual by " + which + " of " + i, () -> Edges.of(16, v), x -> x.residual(0, 0, predictor, at), want);
            }
        }
        Edges.refuses("tried by -1", () -> ramp(16), x -> x.tried(0, 0, -1));
        Edges.refuses("tried by 8", () -> ramp(16), x -> x.tried(0, 0, 8));
        Edges.asks("tried by 7", () -> ramp(16), x -> x.tried(0, 0, 7), ramp(16).tried(0, 0, 0));

        Edges.says("of 5, 6, 7 three told weights (-31 to 31; 0 at first), the ORDER being the place (1 to 3) of the last "
                + "one that is not 0 (0: all are);");
        int[][] told = {{0, 0, 0, 0}, {1, 0, 0, 1}, {-31, 0, 0, 1}, {0, 31, 0, 2}, {31, -1, 0, 2}, {0, 0, 1, 3}, {31, 0, -31, 3},
            {31, 31, 31, 3}, {-31, -31, -31, 3}};
        for (int which = 5; which <= 7; which++) {
            Edges.due("of ORDER 0 at first", Edges.of(8, 9, 5).residual(0, 0, which, 1), 5);
            for (int[] each : told) {
                WholeSound x = Edges.of(16, 1, 10, 100, 1000);
                Edges.due("ORDER", x.predictor(which, each[0], each[1], each[2], 0), each[3]);
                int order = each[3];
                int first = order == 3 ? 1000 : order == 2 ? 100 : order == 1 ? 10 : 1;
                int guessed = order == 0 ? 0 : each[0] * first / 10 + each[1] * first / 100 + each[2] * first / 1000;
                Edges.due("the first with a guess", x.residual(0, 0, which, order), first - guessed);
                if (order > 0) {
                    Edges.due("the last of the first ones", x.residual(0, 0, which, order - 1), first / 10);
                }
            }
            for (int place = 0; place < 3; place++) {
                for (int weight : new int[] {-32, 32}) {
                    int[] each = new int[3];
                    each[place] = weight;
                    int predictor = which;
                    Edges.refuses("weight " + weight + " at " + place, Edges::busy,
                            x -> x.predictor(predictor, each[0], each[1], each[2], 0));
                }
            }
        }
    }

    private static void guesses() {
        Edges.says("and a SHIFT, 0 to 4 (0 at first, always of 0 to 4).");
        for (int shift = -1; shift <= 5; shift++) {
            WholeSound x = Edges.of(16, 1000, 0);
            boolean can = shift >= 0 && shift <= 4;
            Edges.due("predictor with SHIFT " + shift, x.predictor(5, 1, 0, 0, shift), can ? 1 : NONE);
            Edges.due("residual with SHIFT " + shift, x.residual(0, 0, 5, 1), can ? -(1000 >> shift) : 0);
        }
        for (int which = 0; which <= 4; which++) {
            int predictor = which;
            Edges.refuses("no SHIFT of " + which, Edges::busy, x -> x.predictor(predictor, 1, 0, 0, 1));
        }
        WholeSound first = Edges.of(8, 3, 0);
        first.predictor(6, 1, 0, 0, 0);
        Edges.due("0 told as at first", first.residual(0, 0, 6, 1), -3);

        Edges.says("What it GUESSES of a number of a row: the sum of the first weight times the one ahead of it, the second "
                + "weight times that ahead of this, on and on, shifted to the right by SHIFT, the sign staying.");
        // 3 * 100 + 5 * 10 + 7 * 1 is 357; by 16, cut downwards, 22; the sign turned: -23.
        WholeSound x = Edges.of(16, 1, 10, 100, 1000);
        x.predictor(5, 3, 5, 7, 4);
        Edges.due("357 shifted by 4", x.residual(0, 0, 5, 3), 1000 - 22);
        x.predictor(5, -3, -5, -7, 4);
        Edges.due("-357 shifted by 4", x.residual(0, 0, 5, 3), 1000 + 23);
        x.predictor(5, 0, 0, -1, 4);
        Edges.due("-1 shifted by 4", x.residual(0, 0, 5, 3), 1000 + 1);
        x.predictor(5, 0, 0, 1, 4);
        Edges.due("1 shifted by 4", x.residual(0, 0, 5, 3), 1000);
        // The sum is shifted, not each part: 3 * 100 + 5 * 10 by 2 is 87, the parts 75 and 12 make 87; -3 * 100 + 5 * 10 is
        // -250, by 2 -63, the parts -75 and 12 make -63; 1 * 100 + 3 * 10 + 3 * 1 is 133, by 3 16, the parts 12, 3, 0 are 15.
        x.predictor(5, 1, 3, 3, 3);
        Edges.due("the sum is shifted", x.residual(0, 0, 5, 3), 1000 - 16);

        Edges.says("(All are ints, which wrap.)");
        // The farthest that can be told, of s: 65535 four times, then -65535; m is -1 always.
        x = Edges.sound(16, 2);
        Edges.put(x, 0, 32767, 32767, 32767, 32767, -32768);
        Edges.put(x, 1, -32768, -32768, -32768, -32768, 32767);
        x.predictor(6, -31, -31, -31, 0);
        x.predictor(7, 31, 31, 31, 0);
        x.allow(0);
        Edges.due("m, s", x.join(0), 3);
        Edges.due("far below", x.residual(0, 1, 7, 4), -94 * 65535);
        Edges.due("far above", x.residual(0, 1, 6, 3), 94 * 65535);
        // 94 * 65535 is less than 2 to the power of 23: W is 24.
        Edges.due("far above, tried", x.tried(0, 1, 6), 4 + 3 * 17 + 12 + 2 * 24);
        // What wraps while it is read is of no WIDTH, and nothing is thrown.
        String great = Edges.in(4, 5) + Edges.in(16, 32767) + "000" + "1110" + "11111" + ("0" + "1".repeat(30)).repeat(3);
        x = Edges.stored(Edges.rows(Edges.head(1, 16, 16, 4, 127), Edges.frame(0, great)));
        Edges.due("far beyond", x.at(21), NONE);
        Edges.due("nothing is FOUND", x.good(), 0);

        Edges.says("RESIDUAL: the number less what is GUESSED.");
        x = Edges.of(8, -128, 127, -128);
        Edges.due("127 less -128", x.residual(0, 0, 1, 1), 255);
        Edges.due("-128 less 127", x.residual(0, 0, 1, 2), -255);
    }

    private static void ready() {
        Edges.says("READY: there is a CHANNEL, and all have as many SAMPLES.");
        WholeSound x = new WholeSound();
        Edges.due("no CHANNEL", x.size(), NONE);
        x.channel(8);
        Edges.due("one CHANNEL without SAMPLES", x.size(), 21);
        x.channel(8);
        Edges.due("two without SAMPLES", x.size(), 21);
        Edges.put(x, 0, 5);
        Edges.due("1 and 0", x.size(), NONE);
        Edges.put(x, 1, 5);
        Edges.due("1 and 1", x.size(), 21 + 2 + 4 + 2);
        Edges.put(x, 1, 5);
        Edges.due("1 and 2", x.size(), NONE);
        Edges.put(x, 0, 5);
        Edges.due("2 and 2", x.size(), 21 + 2 + 4 + 2);
        x = Edges.sound(8, 1);
        x.fill(0, 0, 3, 1, 0);
        Edges.due("3 of one", x.size(), 27);
        x.channel(8);
        Edges.due("3 and none", x.size(), NONE);
        Edges.due("256 and 256", full(2).size() == NONE ? 0 : 1, 1);

        Edges.says("FRAMES (none, if it is not READY): of FRAME SAMPLES each from the first on, the last one of what is left; "
                + "numbered from 0 on.");
        Edges.due("no CHANNEL", new WholeSound().count(7), 0);
        Edges.due("no SAMPLES", Edges.sound(8, 1).count(7), 0);
        Edges.due("not READY", Edges.uneven().count(7), 0);
        Edges.due("not READY", Edges.uneven().join(0), NONE);
        for (int many : new int[] {1, 15, 16, 17, 31, 32, 33}) {
            x = Edges.sound(8, 1);
            x.frame(16);
            x.fill(0, 1, many, -20, 1);
            int last = (many - 1) / 16;
            Edges.due("FRAMES of " + many, x.count(7), last + 1);
            Edges.due("the last", x.join(last), 0);
            Edges.due("none behind it", x.join(last + 1), NONE);
            Edges.due("none ahead of 0", x.join(-1), NONE);
            Edges.due("its first", x.residual(last, 0, 0, 0), -20 + 16 * last);
            Edges.due("its last", x.residual(last, 0, 0, many - 1 - 16 * last), -20 + many - 1);
            int behind = many - 16 * last;
            int frame = last;
            Edges.throwing("none behind its last", () -> rising(many), it -> it.residual(frame, 0, 0, behind),
                    IndexOutOfBoundsException.class);
        }
        x = full(1);
        x.frame(16);
        Edges.due("16 of 16", x.count(7), 16);
        Edges.due("the last of 16", x.join(15), 0);
        Edges.due("the seventeenth", x.join(16), NONE);
        x.frame(64);
        Edges.due("4 of 64", x.count(7), 4);
        x.frame(56);
        Edges.due("4 of 56 and 32", x.count(7), 5);
    }

    private static WholeSound rising(int many) {
        WholeSound x = Edges.sound(8, 1);
        x.frame(16);
        x.fill(0, 1, many, -20, 1);
        return x;
    }

    /** 256 SAMPLES each. */
    private static WholeSound full(int channels) {
        WholeSound x = Edges.sound(8, channels);
        for (int i = 0; i < 4 * channels; i++) {
            x.fill(i / 4, 1, 64, -10, 1);
        }
        return x;
    }

    // ---- promises 1 to 11 ----

    private static void newObject() {
        Edges.in("Promise 1");
        Edges.says("No CHANNEL.");
        int[] first = {0, 0, 32, 1, 255, NONE, NONE, 0, 0, 0, 1};
        for (int what = 0; what < first.length; what++) {
            Edges.due("count(" + what + ")", new WholeSound().count(what), first[what]);
        }
        WholeSound x = new WholeSound();
        Edges.due("sample(0, 0)", x.sample(0, 0), Edges.NO_SAMPLE);
        Edges.due("fill(0, 0, 1, 0, 0)", x.fill(0, 0, 1, 0, 0), NONE);
        Edges.due("clear()", x.clear(), 0);
        WholeSound other = new WholeSound();
        x.channel(8);
        Edges.due("another object's CHANNELS", other.count(0), 0);
    }

    private static void feed() {
        Edges.in("Promise 2");
        Edges.says("24 bytes come behind the TAPE, those of a, b, c, of each the highest first: how many there are;");
        WholeSound x = Edges.sound(8, 1);
        Edges.due("feed", x.feed(0x80_01_02_03_04_05_06_07L, 0x08_09_0a_0b_0c_0d_0e_0fL, 0x10_11_12_13_14_15_16_ffL), 24);
        Edges.due("feed", x.feed(Long.MIN_VALUE, Long.MAX_VALUE, -1L), 48);
        Edges.due("samples", x.samples(0, 48), 48);
        Edges.due("the highest", x.sample(0, 0), -128);
        for (int i = 1; i < 23; i++) {
            Edges.due("byte " + i, x.sample(0, i), i);
        }
        int[] want = {-1, -128, 0, 0, 0, 0, 0, 0, 0, 127, -1, -1, -1, -1, -1, -1, -1, -1};
        for (int i = 0; i < want.length; i++) {
            Edges.due("byte " + (23 + i), x.sample(0, 23 + i), want[i]);
        }
        Edges.says("NONE, and none come, if there would be more than 240.");
        Edges.due("feed up to 240", fed(9).feed(7, 7, 7), 240);
        Edges.refuses("feed beyond 240", () -> fed(10), it -> it.feed(7, 7, 7));
        x = fed(10);
        x.feed(7, 7, 7);
        x.samples(0, 0);
        Edges.due("feed once it is empty", x.feed(7, 7, 7), 24);
    }

    private static WholeSound fed(int times) {
        WholeSound x = Edges.sound(8, 1);
        for (int i = 0; i < times; i++) {
            x.feed(i, 2 * i, 3 * i);
        }
        return x;
    }

    private static void channel() {
        Edges.in("Promise 3");
        Edges.says("A CHANNEL is told: its number;");
        WholeSound x = new WholeSound();
        Edges.due("the first", x.channel(8), 0);
        Edges.due("its SAMPLES", x.count(5), 0);
        Edges.due("no second yet", x.count(6), NONE);
        x.fill(0, 0, 5, 1, 0);
        Edges.due("the second", x.channel(8), 1);
        Edges.due("its SAMPLES", x.count(6), 0);
        Edges.due("the first one's stay", x.count(5), 5);
        x.clear();
        Edges.due("of another WIDTH behind clear()", x.channel(16), 0);
        Edges.says("NONE: others than 8, 16, another WIDTH than the first one's, two there are.");
        for (int width : new int[] {0, 1, 7, 9, 15, 17, 24, 32, -8, -16, HIGHEST, LOWEST}) {
            Edges.refuses("channel(" + width + ") of none", Edges::mute, it -> it.channel(width));
            Edges.refuses("channel(" + width + ") behind one", () -> ramp(16), it -> it.channel(width));
        }
        Edges.refuses("channel(8) behind 16", () -> ramp(16), it -> it.channel(8));
        Edges.refuses("channel(16) behind 8", () -> Edges.of(8, 1), it -> it.channel(16));
        Edges.refuses("a third", Edges::busy, it -> it.channel(8));
        Edges.refuses("a third of another WIDTH", Edges::busy, it -> it.channel(16));
    }

    private static void samples() {
        Edges.in("Promise 4");
        Edges.says("The first n SAMPLES on the TAPE (of 16 bits two bytes each, the higher first, of 8 one; from half the "
                + "greatest on less than 0) come behind those of a CHANNEL;");
        WholeSound x = Edges.sound(16, 2);
        x.fill(1, 0, 2, 9, 0);
        x.feed(0x7fff_8000_ffff_0001L, 0x00ff_0100_8001_0000L, 0x1234_0000_0000_fffeL);
        Edges.due("samples", x.samples(1, 12), 14);
        int[] wide = {9, 9, 32767, -32768, -1, 1, 255, 256, -32767, 0, 0x1234, 0, 0, -2};
        for (int i = 0; i < wide.length; i++) {
            Edges.due("of 16 bits " + i, x.sample(1, i), wide[i]);
        }
        Edges.due("the other CHANNEL", x.count(5), 0);
        x = Edges.sound(8, 1);
        x.feed(0x7f80ff0001fe8100L, 5, 0);
        Edges.due("samples", x.samples(0, 8), 8);
        int[] narrow = {127, -128, -1, 0, 1, -2, -127, 0};
        for (int i = 0; i < narrow.length; i++) {
            Edges.due("of 8 bits " + i, x.sample(0, i), narrow[i]);
        }
        Edges.due("no ninth", x.sample(0, 8), Edges.NO_SAMPLE);

        Edges.says("the TAPE is empty then: how many it has.");
        x = fed(10);
        Edges.due("one of 240", x.samples(0, 1), 1);
        Edges.due("count(9)", x.count(9), 0);
        Edges.due("none is left", x.samples(0, 1), NONE);
        x = fed(1);
        Edges.due("0 of 24", x.samples(0, 0), 0);
        Edges.due("count(9)", x.count(9), 0);
        Edges.due("0 of none", x.samples(0, 0), 0);
        x.fill(0, 0, 3, 1, 0);
        Edges.due("0 of none behind 3", x.samples(0, 0), 3);
    }

    private static void samplesRefused() {
        Edges.says("NONE (the TAPE stays): others, so many bytes are not there, it would be more than 256.");
        for (int channel : new int[] {-1, 2, LOWEST, HIGHEST}) {
            Edges.refuses("CHANNEL " + channel, Edges::busy, it -> it.samples(channel, 1));
        }
        Edges.refuses("CHANNEL 1 of one", () -> fed(1), it -> it.samples(1, 1));
        Edges.refuses("CHANNEL 0 of none", Edges::mute, it -> it.samples(0, 0));
        for (int n : new int[] {-1, LOWEST, HIGHEST, 1 << 30, 1 << 31, (1 << 30) + 1, 25}) {
            Edges.refuses(n + " of 24 bytes", Edges::busy, it -> it.samples(0, n));
        }
        Edges.due("24 of 24 bytes", fed(1).samples(0, 24), 24);
        Edges.refuses("13 of two bytes", EdgesOfTelling::wideFed, it -> it.samples(0, 13));
        Edges.due("12 of two bytes", wideFed().samples(0, 12), 12);
        Edges.refuses("241 of 240 bytes", () -> fed(10), it -> it.samples(0, 241));
        Edges.due("240 of 240 bytes", fed(10).samples(0, 240), 240);
        Edges.refuses("24 behind 233", () -> nearlyFull(233), it -> it.samples(0, 24));
        Edges.due("23 behind 233", nearlyFull(233).samples(0, 23), 256);
        Edges.due("24 behind 232", nearlyFull(232).samples(0, 24), 256);
        Edges.refuses("1 behind 256", () -> nearlyFull(256), it -> it.samples(0, 1));
        WholeSound x = nearlyFull(256);
        Edges.due("0 behind 256", x.samples(0, 0), 256);
        Edges.due("count(9)", x.count(9), 0);
    }

    private static WholeSound wideFed() {
        WholeSound x = Edges.sound(16, 1);
        x.feed(1, 2, 3);
        return x;
    }

    /** So many SAMPLES, and 24 bytes on the TAPE. */
    private static WholeSound nearlyFull(int many) {
        WholeSound x = Edges.sound(8, 1);
        for (int left = many; left > 0; left -= 64) {
            x.fill(0, 1, Math.min(64, left), 0, 1);
        }
        x.feed(1, 2, 3);
        return x;
    }

    private static void fill() {
        Edges.in("Promise 5");
        Edges.says("So many SAMPLES (1 to 64) come behind those of a CHANNEL, each HELD;");
        Edges.due("1", nearlyFull(0).fill(0, 0, 1, 0, 0), 1);
        Edges.due("64", nearlyFull(0).fill(0, 0, 64, 0, 0), 64);
        Edges.due("64 behind 192", nearlyFull(192).fill(0, 0, 64, 0, 0), 256);
        for (int many : new int[] {0, -1, 65, LOWEST, HIGHEST, 256}) {
            Edges.refuses("many " + many, Edges::busy, it -> it.fill(0, 0, many, 0, 0));
        }
        WholeSound x = Edges.sound(8, 2);
        x.fill(1, 0, 2, 4, 0);
        Edges.due("behind two", x.fill(1, 1, 3, 126, 1), 5);
        int[] want = {4, 4, 126, 127, 127};
        for (int i = 0; i < want.length; i++) {
            Edges.due("sample " + i, x.sample(1, i), want[i]);
        }
        Edges.due("the other CHANNEL", x.count(5), 0);
    }

    private static void fillKinds() {
        Edges.says("the k-th of these (from 0) by a KIND 0: x. 1: x + k * y. 2: x, if k / y, cut, is even, else - x (y 1 to 64).");
        WholeSound x = Edges.sound(16, 1);
        x.fill(0, 0, 2, -7, 65536);
        x.fill(0, 1, 4, 5, -3);
        x.fill(0, 1, 3, 65536, -65536);
        int[] want = {-7, -7, 5, 2, -1, -4, 32767, 0, -32768};
        for (int i = 0; i < want.length; i++) {
            Edges.due("sample " + i, x.sample(0, i), want[i]);
        }
        x = Edges.sound(16, 1);
        x.fill(0, 1, 64, -65536, 65536);
        Edges.due("k 63", x.sample(0, 63), 32767);
        Edges.due("k 0", x.sample(0, 0), -32768);
        x = Edges.sound(16, 1);
        x.fill(0, 2, 64, 9, 64);
        x.fill(0, 2, 64, 9, 63);
        x.fill(0, 2, 64, 9, 1);
        Edges.due("y 64, k 63", x.sample(0, 63), 9);
        Edges.due("y 63, k 62", x.sample(0, 126), 9);
        Edges.due("y 63, k 63", x.sample(0, 127), -9);
        Edges.due("y 1, k 0", x.sample(0, 128), 9);
        Edges.due("y 1, k 1", x.sample(0, 129), -9);
        Edges.due("y 1, k 63", x.sample(0, 191), -9);
        x = Edges.sound(8, 1);
        x.fill(0, 2, 6, -128, 2);
        int[] held = {-128, -128, 127, 127, -128, -128};
        for (int i = 0; i < held.length; i++) {
            Edges.due("y 2, k " + i, x.sample(0, i), held[i]);
        }
        for (int y : new int[] {0, -1, 65, -65536, 65536}) {
            Edges.refuses("KIND 2, y " + y, Edges::busy, it -> it.fill(0, 2, 1, 1, y));
        }
    }

    private static int next(int seed) {
        return 1103515245 * seed + 12345;
    }

    private static void fillDrawn() {
        Edges.says("3: a DRAW modulo (2 * x + 1), less x (x 0 to 32767; y is the SEED ahead, if it is not 0; DRAW: the SEED, 1 at "
                + "first, is 1103515245 * SEED + 12345, wrapped; its bits 16 to 30).");
        for (int y : new int[] {0, 1, -1, 7, 65536, -65536}) {
            for (int range : new int[] {0, 1, 100, 32767}) {
                WholeSound x = Edges.sound(16, 1);
                Edges.due("KIND 3", x.fill(0, 3, 3, range, y), 3);
                int seed = y == 0 ? 1 : y;
                for (int i = 0; i < 3; i++) {
                    seed = next(seed);
                    Edges.due("y " + y + ", sample " + i, x.sample(0, i), (seed >>> 16) % 32768 % (2 * range + 1) - range);
                }
                Edges.due("SEED", x.count(10), seed);
                x.fill(0, 3, 1, range, 0);
                Edges.due("SEED goes on", x.count(10), next(seed));
            }
        }
        for (int x : new int[] {-1, 32768, -65536, 65536}) {
            Edges.refuses("KIND 3, x " + x, Edges::busy, it -> it.fill(0, 3, 1, x, 5));
        }
        WholeSound narrow = Edges.sound(8, 1);
        narrow.fill(0, 3, 8, 32767, 0);
        int seed = 1;
        for (int i = 0; i < 8; i++) {
            seed = next(seed);
            int drawn = (seed >>> 16 & 32767) - 32767;
            Edges.due("held " + i, narrow.sample(0, i), Math.max(-128, Math.min(127, drawn)));
        }
        WholeSound other = Edges.sound(8, 1);
        other.fill(0, 0, 8, 5, 9);
        other.fill(0, 1, 8, 5, 9);
        other.fill(0, 2, 8, 5, 9);
        other.fill(0, 4, 8, 5, 9);
        Edges.due("the SEED stays by other KINDS", other.count(10), 1);
    }

    private static void fillOther() {
        Edges.says("4: x + the other CHANNEL's SAMPLE at the place that this one has, less y (y 0 to 255; x + 0, if there is "
                + "none such).");
        WholeSound x = Edges.sound(8, 2);
        x.fill(0, 1, 4, 10, 10);
        x.fill(1, 4, 6, 1, 0);
        x.fill(1, 4, 3, 2, 5);
        // Places 0 to 5, of which the other has four; 6 - 5 to 8 - 5 of these again.
        int[] want = {11, 21, 31, 41, 1, 1, 22, 32, 42};
        for (int i = 0; i < want.length; i++) {
            Edges.due("sample " + i, x.sample(1, i), want[i]);
        }
        x.fill(0, 4, 2, 0, 4);
        Edges.due("of CHANNEL 0 by 1", x.sample(0, 4), 11);
        Edges.due("of CHANNEL 0 by 1", x.sample(0, 5), 21);
        // At place 6: 6 - 6 is the first, 6 - 7 is none.
        x.fill(0, 4, 1, 3, 6);
        x.fill(0, 4, 1, 3, 8);
        Edges.due("the first of the other", x.sample(0, 6), 14);
        Edges.due("ahead of its first", x.sample(0, 7), 3);
        x = full(2);
        x.clear();
        x.channel(8);
        x.channel(8);
        x.fill(0, 0, 1, 77, 0);
        for (int i = 0; i < 3; i++) {
            x.fill(1, 0, 64, 0, 0);
        }
        x.fill(1, 0, 63, 0, 0);
        Edges.due("y 255 at place 255", x.fill(1, 4, 1, 1, 255), 256);
        Edges.due("y 255 at place 255", x.sample(1, 255), 78);
        x = Edges.sound(8, 1);
        x.fill(0, 0, 4, 9, 0);
        x.fill(0, 4, 1, 3, 1);
        Edges.due("no other CHANNEL", x.sample(0, 4), 3);
        x = Edges.sound(8, 2);
        Edges.put(x, 0, 127, -128);
        x.fill(1, 4, 1, 1, 0);
        x.fill(1, 4, 1, -1, 0);
        Edges.due("HELD above", x.sample(1, 0), 127);
        Edges.due("HELD below", x.sample(1, 1), -128);
        for (int y : new int[] {-1, 256, -65536, 65536}) {
            Edges.refuses("KIND 4, y " + y, Edges::busy, it -> it.fill(0, 4, 1, 1, y));
        }
    }

    private static void fillRefused() {
        Edges.says("How many it has; NONE: others (x, y from -65536 to 65536), it would be more than 256.");
        for (int kind = 0; kind <= 4; kind++) {
            int each = kind;
            for (int beyond : new int[] {-65537, 65537, LOWEST, HIGHEST}) {
                Edges.refuses("KIND " + kind + ", x " + beyond, Edges::busy, it -> it.fill(0, each, 1, beyond, 1));
                Edges.refuses("KIND " + kind + ", y " + beyond, Edges::busy, it -> it.fill(0, each, 1, 1, beyond));
            }
            for (int channel : new int[] {-1, 2, LOWEST, HIGHEST}) {
                Edges.refuses("KIND " + kind + ", CHANNEL " + channel, Edges::busy, it -> it.fill(channel, each, 1, 1, 1));
            }
            Edges.refuses("KIND " + kind + " of none", Edges::mute, it -> it.fill(0, each, 1, 1, 1));
            Edges.refuses("KIND " + kind + ", CHANNEL 1 of one", () -> ramp(16), it -> it.fill(1, each, 1, 1, 1));
            Edges.due("KIND " + kind + ", up to 256", nearlyFull(192).fill(0, each, 64, 1, 1), 256);
            Edges.refuses("KIND " + kind + ", up to 257", () -> nearlyFull(193), it -> it.fill(0, each, 64, 1, 1));
            Edges.refuses("KIND " + kind + ", behind 256", () -> nearlyFull(256), it -> it.fill(0, each, 1, 1, 1));
        }
        for (int kind : new int[] {-1, 5, LOWEST, HIGHEST}) {
            Edges.refuses("KIND " + kind, Edges::busy, it -> it.fill(0, kind, 1, 1, 1));
        }
        for (int kind : new int[] {0, 1}) {
            WholeSound x = Edges.sound(16, 1);
            Edges.due("the highest x, the lowest y", x.fill(0, kind, 1, 65536, -65536), 1);
            Edges.due("the lowest x, the highest y", x.fill(0, kind, 1, -65536, 65536), 2);
            Edges.due("held", x.sample(0, 0), 32767);
            Edges.due("held", x.sample(0, 1), -32768);
        }
        Edges.due("KIND 2, the lowest x", Edges.sound(16, 1).fill(0, 2, 1, -65536, 1), 1);
        Edges.due("KIND 4, the highest x", Edges.sound(16, 1).fill(0, 4, 1, 65536, 0), 1);
    }

    private static void clear() {
        Edges.in("Promise 6");
        Edges.says("All (the TAPE, too) is as at first, but the STORE: how many CHANNELS there were.");
        WholeSound x = Edges.busy();
        int bytes = x.count(8);
        int[] stored = new int[bytes];
        for (int i = 0; i < bytes; i++) {
            stored[i] = x.store(i);
        }
        Edges.due("of two", x.clear(), 2);
        int[] first = {0, 0, 32, 1, 255, NONE, NONE, 0, bytes, 0, 1};
        for (int what = 0; what < first.length; what++) {
            Edges.due("count(" + what + ")", x.count(what), first[what]);
        }
        Edges.dueStore(x, stored);
        Edges.due("of none", x.clear(), 0);
        Edges.due("of one", ramp(16).clear(), 1);
        Edges.due("of a new object", new WholeSound().clear(), 0);
        x.channel(8);
        x.fill(0, 3, 1, 100, 0);
        Edges.due("by the SEED at first", x.sample(0, 0), 16838 % 201 - 100);
        Edges.due("no SAMPLES of before", x.sample(0, 1), Edges.NO_SAMPLE);
        x.pack();
        for (int i = 7; i < 19; i++) {
            Edges.due("weights and SHIFTS at byte " + i, x.store(i), 0);
        }
        x = fed(10);
        x.clear();
        x.channel(8);
        Edges.due("nothing on the TAPE", x.samples(0, 1), NONE);
        Edges.due("room on the TAPE", x.feed(1, 2, 3), 24);
    }

    private static void frame() {
        Edges.in("Promise 7");
        Edges.says("FRAME: what it was; NONE: others.");
        WholeSound x = new WholeSound();
        int before = 32;
        for (int n : new int[] {16, 64, 24, 56, 32, 48, 40, 40}) {
            Edges.due("frame(" + n + ")", x.frame(n), before);
            before = n;
        }
        for (int n : new int[] {15, 17, 8, 0, -16, -32, 63, 65, 72, 128, 20, 28, LOWEST, HIGHEST, LOWEST + 16, 1 << 30}) {
            Edges.refuses("frame(" + n + ")", Edges::busy, it -> it.frame(n));
        }
    }

    private static void predictor() {
        Edges.in("Promise 8");
        Edges.says("Weights and SHIFT of a PREDICTOR (5 to 7): its ORDER; NONE: others.");
        for (int which = 5; which <= 7; which++) {
            WholeSound x = Edges.of(16, 100, 200, 300, 400);
            Edges.due("the highest", x.predictor(which, 31, 31, 31, 4), 3);
            Edges.due("residual", x.residual(0, 0, which, 3), 400 - (31 * 600 >> 4));
            Edges.due("the lowest", x.predictor(which, -31, -31, -31, 0), 3);
            Edges.due("residual", x.residual(0, 0, which, 3), 400 + 31 * 600);
            for (int other = 5; other <= 7; other++) {
                Edges.due("that of " + other, x.residual(0, 0, other, 3), other == which ? 400 + 31 * 600 : 400);
            }
            Edges.due("told anew", x.predictor(which, 1, 0, 0, 0), 1);
            Edges.due("residual", x.residual(0, 0, which, 3), 100);
            Edges.due("of ORDER 0 again", x.predictor(which, 0, 0, 0, 3), 0);
            Edges.due("residual", x.residual(0, 0, which, 0), 100);
            int predictor = which;
            for (int far : new int[] {LOWEST, HIGHEST, -32, 32}) {
                Edges.refuses("a " + far, Edges::busy, it -> it.predictor(predictor, far, 1, 1, 1));
                Edges.refuses("b " + far, Edges::busy, it -> it.predictor(predictor, 1, far, 1, 1));
                Edges.refuses("c " + far, Edges::busy, it -> it.predictor(predictor, 1, 1, far, 1));
            }
            for (int shift : new int[] {-1, 5, LOWEST, HIGHEST}) {
                Edges.refuses("SHIFT " + shift, Edges::busy, it -> it.predictor(predictor, 1, 1, 1, shift));
            }
        }
        for (int which : new int[] {0, 1, 2, 3, 4, 8, -1, LOWEST, HIGHEST}) {
            Edges.refuses("PREDICTOR " + which, Edges::busy, it -> it.predictor(which, 1, 1, 1, 1));
        }
    }

    private static void effortAndAllow() {
        Edges.in("Promise 9");
        Edges.says("EFFORT: what it was; NONE: others.");
        WholeSound x = new WholeSound();
        Edges.due("effort(1)", x.effort(1), 1);
        Edges.due("effort(0)", x.effort(0), 1);
        Edges.due("effort(0)", x.effort(0), 0);
        Edges.due("effort(1)", x.effort(1), 0);
        for (int effort : new int[] {-1, 2, LOWEST, HIGHEST}) {
            Edges.refuses("effort(" + effort + ")", Edges::busy, it -> it.effort(effort));
        }

        Edges.in("Promise 10");
        Edges.says("ALLOWED are these, as bits (0 to 255), and 0: what they were; NONE: others.");
        x = new WholeSound();
        Edges.due("allow(0)", x.allow(0), 255);
        Edges.due("allow(254)", x.allow(254), 1);
        Edges.due("allow(128)", x.allow(128), 255);
        Edges.due("allow(255)", x.allow(255), 129);
        Edges.due("allow(1)", x.allow(1), 255);
        Edges.due("count(4)", x.count(4), 1);
        for (int set : new int[] {-1, 256, LOWEST, HIGHEST}) {
            Edges.refuses("allow(" + set + ")", Edges::busy, it -> it.allow(set));
        }
    }

    private static void sample() {
        Edges.in("Promise 11");
        Edges.says("A SAMPLE; Integer.MIN_VALUE: others, none such.");
        Edges.asks("the first", () -> Edges.of(8, 4, 5, 6), it -> it.sample(0, 0), 4);
        Edges.asks("the last", () -> Edges.of(8, 4, 5, 6), it -> it.sample(0, 2), 6);
        for (int i : new int[] {3, -1, 256, LOWEST, HIGHEST}) {
            Edges.asks("the " + i + "th", () -> Edges.of(8, 4, 5, 6), it -> it.sample(0, i), Edges.NO_SAMPLE);
        }
        for (int channel : new int[] {1, -1, 2, LOWEST, HIGHEST}) {
            Edges.asks("CHANNEL " + channel, () -> Edges.of(8, 4, 5, 6), it -> it.sample(channel, 0), Edges.NO_SAMPLE);
        }
        for (int channel : new int[] {-1, 2, LOWEST, HIGHEST}) {
            Edges.asks("CHANNEL " + channel + " of two", Edges::busy, it -> it.sample(channel, 0), Edges.NO_SAMPLE);
        }
        WholeSound x = full(2);
        Edges.due("the first of the second CHANNEL", x.sample(1, 0), -10);
        Edges.due("the last", x.sample(0, 255), 53);
        Edges.due("none behind it, though there is another CHANNEL", x.sample(0, 256), Edges.NO_SAMPLE);
        Edges.due("none ahead of the second CHANNEL", x.sample(1, -1), Edges.NO_SAMPLE);
        Edges.due("none behind the second", x.sample(1, 256), Edges.NO_SAMPLE);
    }
}

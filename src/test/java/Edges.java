import java.io.IOException;
import java.nio.file.Files;
import java.nio.file.Path;
import java.util.ArrayList;
import java.util.Arrays;
import java.util.LinkedHashMap;
import java.util.List;
import java.util.Map;
import java.util.function.Supplier;
import java.util.function.ToIntFunction;

/**
 * What the tests of boundary cases share. Each begins with a sentence of the document, word for word, and asks answers
 * for it; what no test begins with is told at the end, so that no sentence is left out.
 */
final class Edges {
    static final int NONE = -1;
    static final int NO_SAMPLE = Integer.MIN_VALUE;
    private static final Path DOCUMENT = Path.of("../shared/DOC.md");
    private static final int MOST_FORGED = 400;

    private static final Map<String, String> DOCUMENTED = new LinkedHashMap<>();
    private static final List<Integer> NOISE = new ArrayList<>();
    private static String section = "";
    private static String sentence = "";
    private static int askedOfIt = 1;
    private static int sentences = 0;
    private static int asked = 0;
    private static int wrong = 0;

    private Edges() {
    }

    // ---- the document ----

    static void readDocument() throws IOException {
        if (!Files.exists(DOCUMENT)) {
            System.out.println("EdgesTest: no " + DOCUMENT + ", so the sentences are not held against it");
            return;
        }
        String heading = "";
        for (String line : Files.readAllLines(DOCUMENT)) {
            if (line.startsWith("## ")) {
                heading = line.substring(3).replaceAll(":.*", "");
            } else if (line.startsWith("==== ")) {
                heading = "Terms " + line.charAt(5);
            }
            String words = line.replaceAll("^(#.*|```.*|==== \\d\\. )", "").replaceAll("^`[^`]*`: ", "");
            DOCUMENTED.merge(heading, words, (ahead, behind) -> ahead + " " + behind);
        }
        DOCUMENTED.replaceAll((each, words) -> words.replaceAll("\\s+", " "));
        DOCUMENTED.keySet().removeIf(each -> !each.matches("What it is|Terms.*|Promise.*"));
    }

    /** The part of the document whose sentences come next. */
    static void in(String part) {
        section = part;
    }

    /** Words that name nothing a call could be asked for. */
    static void tells(String words) {
        end();
        sentence = words;
        String all = DOCUMENTED.getOrDefault(section, "");
        int at = all.indexOf(words);
        if (at < 0 && !DOCUMENTED.isEmpty()) {
            fault("these words are not in the document");
        } else if (at >= 0) {
            DOCUMENTED.put(section, all.substring(0, at) + "|" + all.substring(at + words.length()));
        }
        askedOfIt = 1;
    }

    /** A sentence that the answers asked for next belong to. */
    static void says(String words) {
        tells(words);
        askedOfIt = 0;
        sentences++;
    }

    private static void end() {
        if (askedOfIt == 0) {
            fault("nothing is asked for it");
        }
    }

    /** Tells what was wrong, and what was left out; true, if nothing was. */
    static boolean isRight() {
        end();
        DOCUMENTED.forEach((part, words) -> {
            for (String rest : words.split("\\|")) {
                if (rest.matches(".*[A-Za-z0-9].*")) {
                    wrong++;
                    System.out.println(part + ": no test begins with: " + rest.trim());
                }
            }
        });
        System.out.println("EdgesTest: " + sentences + " sentences, " + asked + " answers asked for, " + wrong + " wrong");
        return wrong == 0;
    }

    // ---- answers ----

    private static void fault(String what) {
        wrong++;
        System.out.println(section + ", \"" + sentence + "\": " + what);
    }

    static void due(String call, long got, long want) {
        asked++;
        askedOfIt++;
        if (got != want) {
            fault(call + " answered " + got + ", due is " + want);
        }
    }

    /** An answer that leaves all as it is: a new object that was asked is told from another that was not. */
    static void asks(String call, Supplier<WholeSound> made, ToIntFunction<WholeSound> asking, long want) {
        WholeSound x = made.get();
        due(call, asking.applyAsInt(x), want);
        dueState(call, x, made);
    }

    static void refuses(String call, Supplier<WholeSound> made, ToIntFunction<WholeSound> asking) {
        asks(call, made, asking, NONE);
    }

    static void throwing(String call, Supplier<WholeSound> made, ToIntFunction<WholeSound> asking, Class<?> want) {
        WholeSound x = made.get();
        Class<?> got = null;
        try {
            asking.applyAsInt(x);
        } catch (RuntimeException thrown) {
            got = thrown.getClass();
        }
        asked++;
        askedOfIt++;
        // The very class: what the machine itself throws would be of a class below it.
        if (got != want) {
            fault(call + " threw " + got + ", due is " + want);
        }
        dueState(call, x, made);
    }

    private static void dueState(String call, WholeSound x, Supplier<WholeSound> made) {
        String got = state(x);
        String want = state(made.get());
        if (!got.equals(want)) {
            fault(call + " left " + got + ", due is " + want);
        }
    }

    /** All that can be seen of an object; the object is used up by it. */
    private static String state(WholeSound x) {
        StringBuilder out = new StringBuilder();
        for (int what = 0; what <= 10; what++) {
            out.append(x.count(what)).append(' ');
        }
        appendSamples(x, out);
        int bytes = x.count(8);
        for (int i = 0; i < bytes && i < 100; i++) {
            out.append(i % 16 == 0 ? '\n' : ' ').append(x.store(i));
        }
        // The TAPE is seen once it is SAMPLES.
        x.channel(8);
        int fed = x.count(9) / (x.count(1) / 8);
        if (x.samples(0, fed) == NONE) {
            x.samples(1, fed);
        }
        appendSamples(x, out);
        // The told weights and SHIFTS stand in the HEAD, for which all CHANNELS must be as long.
        for (int i = 0; i < 8 && x.pack() == NONE; i++) {
            int more = x.count(5) - x.count(6);
            x.fill(more > 0 ? 1 : 0, 0, Math.min(64, Math.abs(more)), 0, 0);
        }
        for (int i = 7; i < 19; i++) {
            out.append(i == 7 ? '\n' : ' ').append(x.store(i));
        }
        return out.toString();
    }

    /** The first ones and the last ones; all would be too many calls. */
    private static void appendSamples(WholeSound x, StringBuilder out) {
        for (int channel = 0; channel < 2; channel++) {
            int many = x.count(5 + channel);
            for (int i = 0; i < many; i++) {
                if (i < 24 || i >= many - 24) {
                    out.append(i % 16 == 0 ? '\n' : ' ').append(x.sample(channel, i));
                }
            }
        }
    }

    // ---- sounds ----

    static WholeSound sound(int width, int channels) {
        WholeSound x = new WholeSound();
        for (int i = 0; i < channels; i++) {
            x.channel(width);
        }
        return x;
    }

    static void put(WholeSound x, int channel, int... values) {
        for (int value : values) {
            x.fill(channel, 0, 1, value, 0);
        }
    }

    /** One CHANNEL of these SAMPLES. */
    static WholeSound of(int width, int... values) {
        WholeSound x = sound(width, 1);
        put(x, 0, values);
        return x;
    }

    /** One CHANNEL of these SAMPLES, no PREDICTOR but 0 ALLOWED. */
    static WholeSound unguessed(int width, int... values) {
        WholeSound x = of(width, values);
        x.allow(0);
        return x;
    }

    /** So many of one value. */
    static int[] times(int many, int value) {
        int[] all = new int[many];
        Arrays.fill(all, value);
        return all;
    }

    static int[] rows(int[]... parts) {
        return Arrays.stream(parts).flatMapToInt(Arrays::stream).toArray();
    }

    /** Both values in turn. */
    static int[] turns(int many, int even, int odd) {
        int[] all = times(many, even);
        for (int i = 1; i < many; i += 2) {
            all[i] = odd;
        }
        return all;
    }

    /** Something of everything: two CHANNELS of 20, two FRAMES, told PREDICTORS, a STORE, a TAPE, another SEED. */
    static WholeSound busy() {
        WholeSound x = sound(8, 2);
        x.fill(0, 3, 20, 50, 9);
        x.fill(1, 4, 20, 2, 1);
        x.frame(16);
        x.effort(0);
        x.allow(0b01101110);
        x.predictor(5, 1, -1, 0, 1);
        x.predictor(6, 0, 3, 0, 2);
        x.predictor(7, -5, 0, 31, 4);
        x.pack();
        x.feed(0x0102030405060708L, 0x1112131415161718L, 0x2122232425262728L);
        return x;
    }

    /** No CHANNEL, but all else that can be told. */
    static WholeSound mute() {
        WholeSound x = busy();
        x.clear();
        x.frame(40);
        x.allow(6);
        x.predictor(6, 1, 2, 3, 4);
        return x;
    }

    /** Two CHANNELS, one of which has one SAMPLE more. */
    static WholeSound uneven() {
        WholeSound x = busy();
        x.fill(1, 0, 1, 7, 0);
        return x;
    }

    // ---- bytes ----

    static int check(int[] bytes, int from, int to) {
        int c = 65535;
        for (int i = from; i < to; i++) {
            c ^= 256 * bytes[i];
            for (int k = 0; k < 8; k++) {
                c = c >= 32768 ? (2 * c ^ 4129) % 65536 : 2 * c;
            }
        }
        return c;
    }

    /** A HEAD with the right CHECK; told are the twelve bytes of PREDICTORS 5, 6, 7, as far as they are not 0. */
    static int[] head(int channels, int width, int frame, int samples, int... told) {
        int[] bytes = new int[21];
        int[] first = {83, 80, channels, width, frame, samples / 256, samples % 256};
        System.arraycopy(first, 0, bytes, 0, first.length);
        System.arraycopy(told, 0, bytes, first.length, told.length);
        return mended(bytes);
    }

    /** The last two bytes as the CHECK of those ahead of them. */
    static int[] mended(int[] bytes) {
        int check = check(bytes, 0, bytes.length - 2);
        bytes[bytes.length - 2] = check / 256;
        bytes[bytes.length - 1] = check % 256;
        return bytes;
    }

    /** A FRAME of these bits, 0 up to a whole byte, with the right CHECK. */
    static int[] frame(int number, String bits) {
        int[] bytes = new int[4 + (bits.length() + 7) / 8];
        bytes[0] = 165;
        bytes[1] = number;
        for (int i = 0; i < bits.length(); i++) {
            bytes[2 + i / 8] |= bits.charAt(i) - '0' << 7 - i % 8;
        }
        return mended(bytes);
    }

    /** A number in so many bits, the highest first. */
    static String in(int bits, int number) {
        StringBuilder out = new StringBuilder();
        for (int i = bits - 1; i >= 0; i--) {
            out.append(number >> i & 1);
        }
        return out.toString();
    }

    private static WholeSound noise() {
        WholeSound x = sound(16, 2);
        for (int i = 0; i < 4; i++) {
            x.fill(0, 3, 64, 32767, 0);
            x.fill(1, 3, 64, 32767, 0);
        }
        x.allow(0);
        x.pack();
        return x;
    }

    /** No CHANNEL, and a STORE of these bytes: those of noise are cut and spoilt. */
    static WholeSound stored(int... bytes) {
        if (NOISE.isEmpty()) {
            WholeSound other = noise();
            for (int i = 0; i < MOST_FORGED; i++) {
                NOISE.add(other.store(i));
            }
        }
        WholeSound x = noise();
        x.clear();
        x.drop(x.count(8) - bytes.length);
        for (int i = 0; i < bytes.length; i++) {
            if (NOISE.get(i) != bytes[i]) {
                x.spoil(i, NOISE.get(i) ^ bytes[i]);
            }
        }
        return x;
    }

    /** The STORE has these bytes, and no more. */
    static void dueStore(WholeSound x, int... want) {
        due("bytes in the STORE", x.count(8), want.length);
        for (int i = 0; i < want.length; i++) {
            due("store(" + i + ")", x.store(i), want[i]);
        }
    }
}

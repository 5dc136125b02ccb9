import java.util.Arrays;
import java.util.NoSuchElementException;
import java.util.function.Supplier;
import java.util.function.ToIntFunction;

/** Boundary cases of the bytes and what they tell: part 4 of the document's terms, promises 24 to 35, 37 and 38. */
final class EdgesOfReading {
    private static final int NONE = Edges.NONE;
    private static final int LOWEST = Integer.MIN_VALUE;
    private static final int HIGHEST = Integer.MAX_VALUE;
    private static final Class<?> NO_ELEMENT = NoSuchElementException.class;

    private EdgesOfReading() {
    }

    static void all() {
        headShort();
        headOthers();
        headImpossible();
        headCheck();
        headAlone();
        goodMark();
        goodWhole();
        goodHow();
        goodOrder();
        goodGroups();
        goodCheck();
        goodWidth();
        goodParts();
        foundFrom();
        foundFirst();
        foundBehind();
        foundNone();
        heardWhat();
        constants();
        store();
        spoil();
        drop();
        take();
        head();
        good();
        seek();
        holds();
        near();
        at();
        heard();
        same();
        loud();
        count();
    }

    /** A HEAD as told, and one FRAME of number 0. */
    private static WholeSound one(int[] head, String bits) {
        return Edges.stored(Edges.rows(head, Edges.frame(0, bits)));
    }

    /** A STILL row of 8 bits. */
    private static String still(int value) {
        return "1000" + Edges.in(8, value);
    }

    /** FRAMES of 16, 8 bits, each STILL of one more than its number, so many SAMPLES in all. */
    private static int[] frames(int samples) {
        int[] bytes = Edges.head(1, 8, 16, samples);
        for (int number = 0; number < (samples + 15) / 16; number++) {
            bytes = Edges.rows(bytes, Edges.frame(number, still(number + 1)));
        }
        return bytes;
    }

    private static WholeSound three() {
        return Edges.stored(frames(42));
    }

    // ---- terms, part 4: the HEAD ----

    private static void headShort() {
        Edges.in("Terms 4");
        Edges.says("READ is the STORE: HEAD: 1 it has less than 21 bytes;");
        int[] bytes = Edges.rows(Edges.head(1, 8, 16, 0), Edges.times(1, 7));
        for (int many = 0; many <= 22; many++) {
            Edges.due("head() of " + many, Edges.stored(Arrays.copyOf(bytes, many)).head(), many < 21 ? 1 : 0);
        }
        WholeSound x = new WholeSound();
        Edges.due("of a new object", x.head(), 1);
    }

    private static int headOf(int place, int value) {
        int[] bytes = Edges.head(1, 8, 16, 0);
        bytes[place] = value;
        return Edges.stored(Edges.mended(bytes)).head();
    }

    private static void headOthers() {
        Edges.says("2 the first two are others;");
        for (int value = 0; value < 256; value++) {
            Edges.due("first " + value, headOf(0, value), value == 83 ? 0 : 2);
            Edges.due("second " + value, headOf(1, value), value == 80 ? 0 : 2);
        }
        int[] turned = Edges.head(1, 8, 16, 0);
        turned[0] = 80;
        turned[1] = 83;
        Edges.due("in another order", Edges.stored(Edges.mended(turned)).head(), 2);
    }

    private static void headImpossible() {
        Edges.says("3 CHANNELS (1, 2), WIDTH (8, 16), FRAME, SAMPLES (0 to 256), a SHIFT are not what can be;");
        for (int value = 0; value < 256; value++) {
            Edges.due("CHANNELS " + value, headOf(2, value), value == 1 || value == 2 ? 0 : 3);
            Edges.due("WIDTH " + value, headOf(3, value), value == 8 || value == 16 ? 0 : 3);
            Edges.due("FRAME " + value, headOf(4, value), value >= 16 && value <= 64 && value % 8 == 0 ? 0 : 3);
            Edges.due("SAMPLES " + 256 * value, headOf(5, value), value < 2 ? 0 : 3);
            Edges.due("SAMPLES " + value, headOf(6, value), 0);
            for (int which = 0; which < 3; which++) {
                Edges.due("SHIFT " + value, headOf(10 + 4 * which, value), value <= 4 ? 0 : 3);
                Edges.due("weight " + value, headOf(7 + 5 * which, value), 0);
            }
        }
        Edges.due("SAMPLES 255", Edges.stored(Edges.head(1, 8, 16, 255)).head(), 0);
        Edges.due("SAMPLES 256", Edges.stored(Edges.head(1, 8, 16, 256)).head(), 0);
        Edges.due("SAMPLES 257", Edges.stored(Edges.head(1, 8, 16, 257)).head(), 3);
        Edges.due("SAMPLES 511", Edges.stored(Edges.head(1, 8, 16, 511)).head(), 3);
        Edges.due("SAMPLES 512", Edges.stored(Edges.head(1, 8, 16, 512)).head(), 3);
    }

    private static void headCheck() {
        Edges.says("4 the CHECK is another one;");
        for (int place = 0; place < 21; place++) {
            for (int bit = 0; bit < 8; bit++) {
                int[] bytes = Edges.head(1, 8, 16, 0);
                bytes[place] ^= 1 << bit;
                // Ahead of place 7 it is what can not be, or another one that can be; the CHECK is another one of all these.
                int want = place < 2 ? 2 : 4;
                if (place >= 2 && place < 19) {
                    want = headOf(place, bytes[place]) == 3 ? 3 : 4;
                }
                Edges.due("bit " + bit + " of " + place, Edges.stored(bytes).head(), want);
            }
        }

        Edges.says("0 else (of several the least).");
        int[] right = Edges.head(2, 16, 64, 256, 1, 2, 3, 4, 128, 127, 255, 0, 0, 0, 0, 4);
        Edges.due("0", Edges.stored(right).head(), 0);
        right[20] ^= 1;
        Edges.due("4", Edges.stored(right).head(), 4);
        right[4] = 65;
        Edges.due("3 of 3, 4", Edges.stored(right).head(), 3);
        right[1] = 81;
        Edges.due("2 of 2, 3, 4", Edges.stored(right).head(), 2);
        Edges.due("1 of 1, 2, 3", Edges.stored(Arrays.copyOf(right, 20)).head(), 1);
        right[4] = 64;
        Edges.due("2 of 2, 4", Edges.stored(right).head(), 2);
        right[18] = 5;
        right[1] = 80;
        Edges.due("3 of 3, 4, the last SHIFT", Edges.stored(right).head(), 3);
    }

    private static void headAlone() {
        Edges.says("By the HEAD alone (its CHANNELS, FRAMES, PREDICTORS, weights from -128 to 127) a FRAME of a number is GOOD at a "
                + "place,");
        // What is told of a sound is another thing: other CHANNELS, FRAME, weights.
        WholeSound x = Edges.stored(frames(42));
        x.channel(16);
        x.channel(16);
        x.fill(0, 0, 64, 1, 0);
        x.frame(64);
        x.predictor(5, 1, 2, 3, 4);
        x.allow(0);
        Edges.due("good()", x.good(), 7);
        Edges.due("at(33)", x.at(33), 2);
        Edges.due("heard", x.heard(0, 41), 3);
        // Each weight from -128 to 127 at each of the three places of each PREDICTOR: 1 ahead, so the weight itself comes of it.
        for (int weight : new int[] {-128, -127, -32, -31, -1, 1, 31, 32, 127}) {
            for (int which = 5; which <= 7; which++) {
                for (int place = 0; place < 3; place++) {
                    int[] told = new int[12];
                    told[4 * (which - 5) + place] = weight & 255;
                    int[] head = Edges.head(1, 8, 16, place + 2, told);
                    String bits = Edges.in(4, which) + Edges.in(8, 1) + "00000000".repeat(place) + "0001111";
                    x = one(head, bits);
                    Edges.due("weight " + weight, x.at(21), 0);
                    Edges.due("weight " + weight, x.heard(0, place + 1), weight);
                }
            }
        }
        // SHIFT 4 of -128 times 1: -8; of -1 times 1: -1.
        Edges.due("-128 by 16", one(Edges.head(1, 8, 16, 2, 128, 0, 0, 4), "0101" + Edges.in(8, 1) + "0001111").heard(0, 1), -8);
        Edges.due("-1 by 16", one(Edges.head(1, 8, 16, 2, 255, 0, 0, 4), "0101" + Edges.in(8, 1) + "0001111").heard(0, 1), -1);
        // FRAMES: of 17 SAMPLES number 1 has one; of 32 it has 16.
        Edges.due("one SAMPLE", numbered(17, 1, "1001" + Edges.in(8, 9)).at(21), 1);
        Edges.due("16 SAMPLES", numbered(32, 1, "1001" + Edges.in(8, 9)).at(21), NONE);
        Edges.due("16 SAMPLES", numbered(32, 1, "1001" + Edges.in(8, 9).repeat(16)).at(21), 1);
    }

    private static WholeSound numbered(int samples, int number, String bits) {
        // Zeros behind a CHECK would be the right CHECK of a longer FRAME.
        return Edges.stored(Edges.rows(Edges.head(1, 8, 16, samples), Edges.frame(number, bits), Edges.times(30, 1)));
    }

    // ---- terms, part 4: GOOD ----

    private static void goodMark() {
        Edges.says("if it has 165 and the number there,");
        for (int mark : new int[] {164, 166, 0, 255, 90, 37}) {
            int[] frame = Edges.frame(0, still(5));
            frame[0] = mark;
            Edges.due("mark " + mark, Edges.stored(Edges.rows(Edges.head(1, 8, 16, 16), Edges.mended(frame))).at(21), NONE);
        }
        // Of 256 SAMPLES there are 16 FRAMES.
        for (int number : new int[] {0, 1, 14, 15, 16, 17, 128, 255}) {
            Edges.due("number " + number + " of 16", numbered(256, number, still(5)).at(21), number < 16 ? number : NONE);
        }
        for (int samples : new int[] {0, 1, 15, 16, 17, 32, 33}) {
            int many = (samples + 15) / 16;
            Edges.due("the first behind the last, of " + samples, numbered(samples, many, still(5)).at(21), NONE);
            if (many > 0) {
                Edges.due("the last of " + samples, numbered(samples, many - 1, still(5)).at(21), many - 1);
            }
        }
    }

    private static void goodWhole() {
        Edges.says("all of it is in the STORE,");
        int[] bytes = Edges.rows(Edges.head(1, 8, 16, 16), Edges.frame(0, still(5)));
        for (int many = 21; many <= bytes.length; many++) {
            Edges.due("cut to " + many, Edges.stored(Arrays.copyOf(bytes, many)).at(21), many < bytes.length ? NONE : 0);
        }
        // By 0, one GROUP, PARAMETER 0: zeros without an end.
        int[] open = Edges.rows(Edges.head(1, 8, 16, 16), Edges.frame(0, "0000" + "0010000" + "0".repeat(100)));
        Edges.due("no end of zeros", Edges.stored(open).at(21), NONE);
        // The same where nothing was ever behind the STORE.
        WholeSound fresh = Edges.of(8, 1, -100, 100, 5);
        fresh.allow(0);
        int bytes4 = fresh.pack();
        for (int i = 23; i < bytes4; i++) {
            if (fresh.store(i) != 0) {
                fresh.spoil(i, fresh.store(i));
            }
        }
        Edges.due("no end of zeros, nor of the STORE", fresh.at(21), NONE);
        Edges.due("no end of zeros, nor of the STORE", fresh.good(), 0);
        // Long runs of zeros that have an end: 2000, so u is 2000 and the number 1000.
        WholeSound lasting = one(Edges.head(1, 16, 16, 2), "0000" + "0000000" + "0".repeat(2000) + "1" + "1");
        Edges.due("2000 zeros", lasting.at(21), 0);
        Edges.due("2000 zeros", lasting.heard(0, 0), 1000);
        // The bits end at the very end of the STORE, and there is no room for the CHECK, or for one byte of it.
        int[] plain = Edges.rows(Edges.head(1, 8, 16, 16), Edges.frame(0, "1001" + "01010101".repeat(16)));
        Edges.due("whole", Edges.stored(plain).at(21), 0);
        for (int less = 1; less <= 19; less++) {
            Edges.due("cut by " + less, Edges.stored(Arrays.copyOf(plain, plain.length - less)).at(21), NONE);
        }
        // W of 31 begun, 16 of whose bits would be the CHECK.
        int[] wide = Edges.rows(Edges.head(1, 8, 16, 2), Edges.frame(0, "0001" + "00000000" + "000" + "1110" + "11111"));
        Edges.due("W of 31 begun", Edges.stored(wide).at(21), NONE);
        Edges.due("165 as the last byte", Edges.stored(Edges.rows(Edges.head(1, 8, 16, 2), Edges.times(1, 165))).at(21), NONE);
    }

    private static void goodHow() {
        Edges.says("HOW is none above 9,");
        Edges.due("8", one(Edges.head(1, 8, 16, 2), "1000" + "00000101").at(21), 0);
        Edges.due("9", one(Edges.head(1, 8, 16, 2), "1001" + "0000010100000110").at(21), 0);
        for (int how = 10; how <= 15; how++) {
            // Whatever would be behind it.
            for (int more = 0; more <= 5; more++) {
                String bits = Edges.in(4, how) + "00000000".repeat(more);
                Edges.due(how + " and " + more + " numbers", one(Edges.head(1, 8, 16, 2), bits).at(21), NONE);
                Edges.due(how + " and a RUN", one(Edges.head(1, 8, 16, 2), bits + "0001111").at(21), NONE);
            }
            Edges.due(how + " of the second ROW", one(Edges.head(2, 8, 16, 2), "00" + still(5) + Edges.in(4, how)).at(21), NONE);
        }
        Edges.due("8 of the second ROW", one(Edges.head(2, 8, 16, 2), "00" + still(5) + still(6)).at(21), 0);
    }

    private static void goodOrder() {
        Edges.says("no PREDICTOR of an ORDER of its SAMPLES or more,");
        for (int which = 0; which <= 7; which++) {
            int order = which <= 4 ? which : which - 4;
            for (int samples = 1; samples <= 6; samples++) {
                int[] head = Edges.head(1, 8, 16, samples, 1, 0, 0, 0, 0, 1, 0, 0, 0, 0, 1, 0);
                String first = Edges.in(4, which) + "00000000".repeat(order);
                boolean can = order < samples;
                Edges.due(which + " of " + samples, one(head, first + "0001111").at(21), can ? 0 : NONE);
                if (!can) {
                    // Nor if nothing follows, nor with as many numbers as there are.
                    Edges.due(which + " of " + samples, one(head, first).at(21), NONE);
                    Edges.due(which + " of " + samples, one(head, Edges.in(4, which) + "00000000".repeat(samples)).at(21), NONE);
                    Edges.due(which + " of " + samples, one(head, Edges.in(4, which)).at(21), NONE);
                }
            }
        }
    }

    private static void goodGroups() {
        Edges.says("no RUN of more GROUPS than there are,");
        for (int samples : new int[] {1, 8, 9, 16, 17, 56, 57, 63, 64}) {
            int there = (samples + 7) / 8;
            for (int groups = 1; groups <= 8; groups++) {
                WholeSound x = one(Edges.head(1, 8, 64, samples), "0000" + Edges.in(3, groups - 1) + "1111"
                        + (groups < there ? Edges.in(3, there - groups - 1) + "1111" : ""));
                Edges.due(groups + " of " + there, x.at(21), groups <= there ? 0 : NONE);
            }
        }
        // By 1 there is one RESIDUAL less: of 9 SAMPLES one GROUP.
        Edges.due("1 of 1 by 1", one(Edges.head(1, 8, 64, 9), "0001" + "00000101" + "0001111").at(21), 0);
        Edges.due("2 of 1 by 1", one(Edges.head(1, 8, 64, 9), "0001" + "00000101" + "0011111").at(21), NONE);
        Edges.due("2 of 2 by 1", one(Edges.head(1, 8, 64, 10), "0001" + "00000101" + "0011111").at(21), 0);
        // Of what is left behind a RUN.
        Edges.due("1, then 2 of 1", one(Edges.head(1, 8, 64, 16), "0000" + "0001111" + "0011111").at(21), NONE);
        Edges.due("1, then 1 of 1", one(Edges.head(1, 8, 64, 16), "0000" + "0001111" + "0001111").at(21), 0);
        Edges.due("7, then 2 of 1", one(Edges.head(1, 8, 64, 64), "0000" + "1101111" + "0011111").at(21), NONE);
        Edges.due("7, then 1 of 1", one(Edges.head(1, 8, 64, 64), "0000" + "1101111" + "0001111").at(21), 0);
        Edges.due("eight of 1", one(Edges.head(1, 8, 64, 64), "0000" + "0001111".repeat(8)).at(21), 0);
        Edges.due("seven of 1", one(Edges.head(1, 8, 64, 64), "0000" + "0001111".repeat(7)).at(21), NONE);
        // A RUN of too many with all their numbers there.
        Edges.due("2 of 1, 16 numbers", one(Edges.head(1, 8, 64, 8), "0000" + "0010000" + "1".repeat(16)).at(21), NONE);
        Edges.due("2 of 1, 8 numbers", one(Edges.head(1, 8, 64, 8), "0000" + "0010000" + "1".repeat(8)).at(21), NONE);
    }

    private static void goodCheck() {
        Edges.says("the CHECK is right,");
        int[] frame = Edges.frame(0, still(5));
        for (int place = 0; place < frame.length; place++) {
            for (int bit = 0; bit < 8; bit++) {
                int[] bytes = Edges.rows(Edges.head(1, 8, 16, 16), frame);
                bytes[21 + place] ^= 1 << bit;
                Edges.due("bit " + bit + " of " + place, Edges.stored(bytes).at(21), NONE);
            }
        }
        Edges.due("right", Edges.stored(Edges.rows(Edges.head(1, 8, 16, 16), frame)).at(21), 0);
        int[] turned = frame.clone();
        turned[4] = frame[5];
        turned[5] = frame[4];
        Edges.due("the lower first", Edges.stored(Edges.rows(Edges.head(1, 8, 16, 16), turned)).at(21), NONE);
        // What fills up the last byte is of no account but for the CHECK.
        Edges.due("filled up by ones", one(Edges.head(1, 8, 16, 16), still(5) + "1111").at(21), 0);
        Edges.due("filled up by ones, heard", one(Edges.head(1, 8, 16, 16), still(5) + "1111").heard(0, 15), 5);
    }

    private static void goodWidth() {
        Edges.says("and all SAMPLES that come of it are of the WIDTH.");
        for (int width : new int[] {8, 16}) {
            int half = width == 8 ? 128 : 32768;
            for (int place = 0; place < 3; place++) {
                for (int value : new int[] {-half - 1, -half, half - 1, half, 1 << 29, -1 << 30, (1 << 30) - 1}) {
                    // By 0, W of 31.
                    String bits = "0000" + "000" + "1110" + "11111";
                    for (int i = 0; i < 3; i++) {
                        bits += Edges.in(31, i == place ? value : 0);
                    }
                    WholeSound x = one(Edges.head(1, width, 16, 3), bits);
                    boolean can = value >= -half && value < half;
                    Edges.due(value + " at " + place + " of " + width, x.at(21), can ? 0 : NONE);
                    Edges.due("heard", x.heard(0, place), can ? value : 0);
                }
            }
            // By 2: half of the highest, the highest less 1, the highest and 1 more by residuals.
            String first = "0010" + Edges.in(width, 0) + Edges.in(width, half / 2) + "000" + "1110" + "00010";
            Edges.due("the highest", one(Edges.head(1, width, 16, 3), first + "11").at(21), 0);
            Edges.due("the highest", one(Edges.head(1, width, 16, 3), first + "11").heard(0, 2), half - 1);
            Edges.due("above it", one(Edges.head(1, width, 16, 3), first + "00").at(21), NONE);
        }
        // Joined: l or r beyond, of 8 bits; s in 9.
        int[] head = Edges.head(2, 8, 16, 2);
        int[][] joined = {{1, 127, 255}, {1, 127, 256 - 1}, {1, -128, 0}, {1, -128, 1}, {1, 0, 128}, {1, 0, 129}, {1, 0, -127},
            {1, 0, -128}, {2, 127, 0}, {2, 127, 1}, {2, 127, -255}, {2, -128, 255}, {2, -128, -1}, {2, -128, 256}};
        for (int[] each : joined) {
            int l = each[0] == 1 ? each[1] : each[1] + (each[2] << 23 >> 23);
            int r = each[0] == 1 ? each[1] - (each[2] << 23 >> 23) : each[1];
            String side = "1000" + Edges.in(9, each[2]);
            WholeSound x = one(head, Edges.in(2, each[0]) + (each[0] == 1 ? still(each[1]) + side : side + still(each[1])));
            boolean can = l >= -128 && l <= 127 && r >= -128 && r <= 127;
            Edges.due("JOIN " + each[0] + ": " + each[1] + ", " + each[2], x.at(21), can ? 0 : NONE);
            if (can) {
                Edges.due("l", x.heard(0, 1), l);
                Edges.due("r", x.heard(1, 1), r);
            }
        }
    }

    private static void goodParts() {
        Edges.says("(W of 0: all are 0. Ints wrap; of l from m, s: (2 * m + s modulo 2 + s) / 2, cut downwards, r is l - s; s modulo "
                + "2 is 0 or 1.)");
        WholeSound x = one(Edges.head(1, 8, 16, 9), "0001" + "00000101" + "000" + "1110" + "00000");
        Edges.due("W of 0", x.at(21), 0);
        Edges.due("W of 0", x.seek(0, 1), 2 + 3 + 2);
        for (int i = 0; i < 9; i++) {
            Edges.due("W of 0, heard", x.heard(0, i), 5);
        }
        // W from 1 to 31: the lowest and the highest of each that is of 16 bits, else none.
        for (int w = 1; w <= 31; w++) {
            int half = 1 << w - 1;
            x = one(Edges.head(1, 16, 16, 2), "0000" + "000" + "1110" + Edges.in(5, w) + Edges.in(w, -half) + Edges.in(w, half - 1));
            Edges.due("W of " + w, x.at(21), w <= 16 ? 0 : NONE);
            Edges.due("W of " + w + ", the lowest", x.heard(0, 0), w <= 16 ? -half : 0);
            Edges.due("W of " + w + ", the highest", x.heard(0, 1), w <= 16 ? half - 1 : 0);
        }
        for (int m : new int[] {-128, -127, -2, -1, 0, 1, 2, 126, 127}) {
            for (int s : new int[] {-256, -255, -254, -129, -3, -2, -1, 0, 1, 2, 3, 128, 253, 254, 255}) {
                int l = Math.floorDiv(2 * m + Math.floorMod(s, 2) + s, 2);
                int r = l - s;
                boolean can = l >= -128 && l <= 127 && r >= -128 && r <= 127;
                x = one(Edges.head(2, 8, 16, 3), "11" + still(m) + "1000" + Edges.in(9, s));
                Edges.due("m " + m + ", s " + s, x.at(21), can ? 0 : NONE);
                Edges.due("l", x.heard(0, 2), can ? l : 0);
                Edges.due("r", x.heard(1, 2), can ? r : 0);
            }
        }
        // 0 to 13 as they are read: u of 0, of all ones, and of one 0 ahead.
        for (int p = 0; p <= 13; p++) {
            int ones = (1 << p) - 1;
            int more = 1 << p;
            x = one(Edges.head(1, 16, 16, 3), "0000" + "000" + Edges.in(4, p) + "1" + Edges.in(p, 0) + "1" + Edges.in(p, ones) + "01"
                    + Edges.in(p, 0));
            Edges.due("PARAMETER " + p, x.heard(0, 0), 0);
            Edges.due("PARAMETER " + p, x.heard(0, 1), ones % 2 == 0 ? ones / 2 : -(ones + 1) / 2);
            Edges.due("PARAMETER " + p, x.heard(0, 2), more % 2 == 0 ? more / 2 : -(more + 1) / 2);
        }
        // By 1 and 2 in turn from the ends of W 31: what is heard would be of no WIDTH, and nothing is thrown.
        for (int which = 1; which <= 4; which++) {
            String far = Edges.in(4, which) + Edges.in(16, 32767).repeat(which) + "001" + "1110" + "11111"
                    + (Edges.in(31, (1 << 30) - 1) + Edges.in(31, -1 << 30)).repeat(5);
            Edges.due("far by " + which, one(Edges.head(1, 16, 16, which + 10), far).at(21), NONE);
            Edges.due("far m by " + which, one(Edges.head(2, 16, 16, which + 10), "11" + far + "1000" + "0".repeat(17)).at(21), NONE);
        }
    }

    // ---- terms, part 4: FOUND ----

    /** A HEAD in which a FRAME of number 0 stands, from the first weight on; then these bytes. */
    private static int[] inHead(int... behind) {
        // 1000, 0101 0000, 0000: the last byte is a SHIFT of 0. Then a CHECK as weights.
        int[] frame = Edges.frame(0, "1000" + "01010000");
        return Edges.rows(Edges.head(1, 8, 16, 32, frame), behind);
    }

    private static void foundFrom() {
        Edges.says("If HEAD is 0 the FRAMES are looked for, from number 0 and place 21 on:");
        WholeSound x = Edges.stored(inHead());
        Edges.due("head()", x.head(), 0);
        Edges.due("GOOD in the HEAD", x.at(7), 0);
        Edges.due("but not FOUND", x.good(), 0);
        Edges.due("but not FOUND", x.seek(0, 0), NONE);
        Edges.due("but not HEARD", x.heard(0, 0), 0);
        x = Edges.stored(inHead(Edges.frame(0, still(9))));
        Edges.due("at place 21", x.seek(0, 0), 21);
        Edges.due("at place 21", x.heard(0, 0), 9);
        x = Edges.stored(Edges.rows(Edges.head(1, 8, 16, 32), Edges.times(1, 165), Edges.frame(0, still(9))));
        Edges.due("at place 22", x.seek(0, 0), 22);
        x.spoil(0, 1);
        Edges.due("HEAD is 2", x.good(), NONE);
        Edges.due("HEAD is 2", x.seek(0, 0), NONE);
        x = Edges.stored(Edges.rows(Edges.head(1, 8, 16, 32), Edges.frame(1, still(9))));
        Edges.due("number 1 alone", x.good(), 2);
    }

    private static WholeSound ordered(int samples, int... numbers) {
        int[] bytes = Edges.head(1, 8, 16, samples);
        for (int number : numbers) {
            bytes = Edges.rows(bytes, Edges.frame(number, still(number + 1)));
        }
        return Edges.stored(bytes);
    }

    private static void foundFirst() {
        Edges.says("at the first place from that one on at which a FRAME of this or a greater number is GOOD that is FOUND;");
        Edges.due("0, 1, 2", ordered(48, 0, 1, 2).good(), 7);
        Edges.due("0, 2", ordered(48, 0, 2).good(), 5);
        Edges.due("2 alone", ordered(48, 2).good(), 4);
        Edges.due("2, 0, 1: the greater comes first", ordered(48, 2, 0, 1).good(), 4);
        Edges.due("1, 0, 2", ordered(48, 1, 0, 2).good(), 6);
        Edges.due("1, 0, 2: where", ordered(48, 1, 0, 2).seek(2, 0), 33);
        Edges.due("0, 3 of 3", ordered(48, 0, 3, 1, 2).good(), 7);
        Edges.due("the last of 16 ahead of all", ordered(256, 15, 0, 1, 14).good(), 1 << 15);
        Edges.due("all 16", Edges.stored(frames(256)).good(), 65535);
        Edges.due("the last of all 16", Edges.stored(frames(256)).heard(0, 255), 16);
        // Bytes between that are none.
        int[] between = Edges.rows(Edges.head(1, 8, 16, 48), Edges.times(3, 165), Edges.frame(0, still(1)), Edges.times(5, 0),
                Edges.frame(2, still(3)), Edges.times(2, 165));
        WholeSound x = Edges.stored(between);
        Edges.due("between", x.good(), 5);
        Edges.due("between, 0", x.seek(0, 0), 24);
        Edges.due("between, 2", x.seek(2, 0), 35);
        // One that is not GOOD is no hindrance: HOW 15, then one that would go beyond the STORE, then a GOOD one.
        x = Edges.stored(Edges.rows(Edges.head(1, 8, 16, 48), Edges.frame(0, "1111"), new int[] {165, 0, 0b10010000},
                Edges.frame(1, still(2))));
        Edges.due("behind what is not GOOD", x.good(), 2);
        Edges.due("behind what is not GOOD", x.seek(1, 0), 29);
        Edges.due("behind what is not GOOD", x.near(21), 29);
    }

    private static void foundBehind() {
        Edges.says("on with the number behind its own, right behind it.");
        Edges.due("0, 0", ordered(48, 0, 0).good(), 1);
        WholeSound x = ordered(48, 0, 0, 1, 1);
        Edges.due("0, 0, 1, 1", x.good(), 3);
        Edges.due("the first 0", x.seek(0, 0), 21);
        Edges.due("the first 1", x.seek(1, 0), 33);
        // The first 0 is spoilt: the second is FOUND.
        x.spoil(23, 1);
        Edges.due("the second 0", x.seek(0, 0), 27);
        // A FRAME inside another: from the fourth bit of a PLAIN one on.
        int[] inner = Edges.frame(1, still(5));
        StringBuilder bits = new StringBuilder("1001" + "0000");
        for (int each : inner) {
            bits.append(Edges.in(8, each));
        }
        bits.append("0".repeat(4 + 16 * 8 - bits.length()));
        int[] outer = Edges.rows(Edges.head(1, 8, 16, 48), Edges.frame(0, bits.toString()), Edges.frame(2, still(7)));
        x = Edges.stored(outer);
        Edges.due("inner", x.at(24), 1);
        Edges.due("the inner one is not FOUND", x.good(), 5);
        Edges.due("bytes of the outer one", x.seek(0, 1), 21);
        Edges.due("right behind it", x.seek(2, 0), 42);
        Edges.due("HEARD of the inner one", x.heard(0, 16), 0);
        // The outer one spoilt at its end: then the inner one is.
        outer[21 + 20] ^= 1;
        x = Edges.stored(outer);
        Edges.due("the inner one is FOUND", x.good(), 6);
        Edges.due("where", x.seek(1, 0), 24);
        Edges.due("HEARD of the inner one", x.heard(0, 16), 5);
    }

    private static void foundNone() {
        Edges.says("If there is none, none is FOUND any more.");
        Edges.due("the HEAD alone", ordered(48).good(), 0);
        Edges.due("0 is none behind 1", ordered(48, 1, 0).good(), 2);
        Edges.due("none behind the last", ordered(48, 2, 2, 1, 0, 2).good(), 4);
        Edges.due("bytes without a FRAME",
                Edges.stored(Edges.rows(Edges.head(1, 8, 16, 48), Edges.times(40, 165))).good(), 0);
        WholeSound x = three();
        x.drop(1);
        Edges.due("the last cut", x.good(), 3);
        x.drop(6);
        Edges.due("the second cut", x.good(), 1);
        x.drop(6);
        Edges.due("the first cut", x.good(), 0);
        x.drop(x.count(8) - 21);
        Edges.due("all cut", x.good(), 0);
        x.drop(1);
        Edges.due("the HEAD cut", x.good(), NONE);
        Edges.due("no SAMPLES", ordered(0, 0).good(), 0);
    }

    private static void heardWhat() {
        Edges.says("What is HEARD: the SAMPLES of FOUND FRAMES, 0 of the others.");
        WholeSound x = ordered(42, 0, 2);
        for (int i = 0; i < 42; i++) {
            Edges.due("heard " + i, x.heard(0, i), i < 16 ? 1 : i < 32 ? 0 : 3);
        }
        x = three();
        for (int i : new int[] {0, 15, 16, 31, 32, 41}) {
            Edges.due("heard " + i, x.heard(0, i), i / 16 + 1);
        }
        x.spoil(22, 8);
        Edges.due("not FOUND any more", x.heard(0, 0), 0);
        Edges.due("not FOUND any more", x.heard(0, 15), 0);
        Edges.due("FOUND still", x.heard(0, 16), 2);
        // GOOD, but not FOUND: 0 behind 1.
        x = ordered(42, 1, 0);
        Edges.due("GOOD", x.at(27), 0);
        Edges.due("but not FOUND", x.heard(0, 0), 0);
        Edges.due("FOUND", x.heard(0, 16), 2);
        // The last FRAME is of what is left: 48 five times, then 16.
        x = Edges.sound(16, 2);
        x.frame(48);
        for (int i = 0; i < 8; i++) {
            x.fill(i % 2, 3, 64, 32767, 0);
        }
        x.pack();
        Edges.due("all FOUND", x.good(), 63);
        Edges.due("the last of l", x.heard(0, 255), x.sample(0, 255));
        Edges.due("the first of r", x.heard(1, 0), x.sample(1, 0));
        Edges.due("the last of r", x.heard(1, 255), x.sample(1, 255));
        // Two CHANNELS, both 0 then.
        WholeSound two = one(Edges.head(2, 8, 16, 3), "00" + still(5) + still(-6));
        Edges.due("l", two.heard(0, 2), 5);
        Edges.due("r", two.heard(1, 2), -6);
        two.spoil(23, 1);
        Edges.due("l spoilt", two.heard(0, 2), 0);
        Edges.due("r spoilt", two.heard(1, 2), 0);
    }

    private static void constants() {
        Edges.says("The constants: `NONE = -1`: None.");
        Edges.due("NONE", WholeSound.NONE, -1);
    }

    // ---- promises 24 to 35, 37, 38 ----

    /** 39 bytes, three FRAMES. */
    private static final int[] NO_PLACES = {-1, 39, 40, 3999, 4000, 4001, LOWEST, HIGHEST, HIGHEST - 1, 1 << 28, 1 << 29};

    private static void noPlaces(ToPlace call) {
        for (int place : NO_PLACES) {
            Edges.refuses("place " + place, EdgesOfReading::three, x -> call.of(x, place));
        }
        Edges.refuses("of a new object", WholeSound::new, x -> call.of(x, 0));
        Edges.refuses("behind what was dropped", EdgesOfReading::dropped, x -> call.of(x, 38));
    }

    /** A call that is asked of a place. */
    private interface ToPlace {
        int of(WholeSound x, int place);
    }

    private static WholeSound dropped() {
        WholeSound x = three();
        x.drop(1);
        return x;
    }

    private static void store() {
        Edges.in("Promise 24");
        Edges.says("A byte of the STORE; NONE: none such.");
        int[] bytes = frames(42);
        for (int i = 0; i < bytes.length; i++) {
            int each = i;
            Edges.asks("byte " + i, EdgesOfReading::three, x -> x.store(each), bytes[i]);
        }
        noPlaces(WholeSound::store);
    }

    private static void spoil() {
        Edges.in("Promise 25");
        Edges.says("A byte of the STORE is xor a mask (1 to 255): what it is; NONE: others, none such.");
        int[] bytes = frames(42);
        for (int place : new int[] {0, 20, 21, 38}) {
            for (int mask : new int[] {1, 2, 128, 254, 255}) {
                WholeSound x = three();
                Edges.due("spoil(" + place + ", " + mask + ")", x.spoil(place, mask), bytes[place] ^ mask);
                int[] want = bytes.clone();
                want[place] ^= mask;
                Edges.dueStore(x, want);
                Edges.due("back", x.spoil(place, mask), bytes[place]);
                Edges.dueStore(x, bytes);
            }
        }
        for (int mask : new int[] {0, 256, 257, -1, -255, LOWEST, HIGHEST}) {
            Edges.refuses("mask " + mask, EdgesOfReading::three, x -> x.spoil(0, mask));
            Edges.refuses("mask " + mask + " of none", EdgesOfReading::three, x -> x.spoil(39, mask));
        }
        noPlaces((x, place) -> x.spoil(place, 1));
        noPlaces((x, place) -> x.spoil(place, 255));
    }

    private static void drop() {
        Edges.in("Promise 26");
        Edges.says("The last n bytes of the STORE go (0 to all): how many are left; NONE: others.");
        int[] bytes = frames(42);
        for (int n : new int[] {0, 1, 6, 18, 19, 38, 39}) {
            WholeSound x = three();
            Edges.due("drop(" + n + ")", x.drop(n), 39 - n);
            Edges.dueStore(x, Arrays.copyOf(bytes, 39 - n));
            Edges.due("the first behind the last", x.store(39 - n), NONE);
            Edges.due("one more than all", x.drop(40 - n), NONE);
            Edges.due("all", x.drop(39 - n), 0);
            Edges.due("none of none", x.drop(0), 0);
            Edges.due("one of none", x.drop(1), NONE);
        }
        for (int n : new int[] {-1, 40, 4000, LOWEST, HIGHEST}) {
            Edges.refuses("drop(" + n + ")", EdgesOfReading::three, x -> x.drop(n));
        }
        Edges.asks("none of a new object", WholeSound::new, x -> x.drop(0), 0);
        Edges.refuses("one of a new object", WholeSound::new, x -> x.drop(1));
    }

    private static void take() {
        Edges.in("Promise 27");
        Edges.says("The byte at a place of the STORE is taken out: which; NONE: none such.");
        int[] bytes = frames(42);
        for (int place : new int[] {0, 1, 20, 21, 37, 38}) {
            WholeSound x = three();
            Edges.due("take(" + place + ")", x.take(place), bytes[place]);
            Edges.dueStore(x, Edges.rows(Arrays.copyOf(bytes, place), Arrays.copyOfRange(bytes, place + 1, 39)));
            Edges.due("none at 38 any more", x.store(38), NONE);
            Edges.due("none to take at 38", x.take(38), NONE);
        }
        WholeSound x = three();
        for (int i = 0; i < 39; i++) {
            Edges.due("the first, " + i, x.take(0), bytes[i]);
        }
        Edges.due("none is left", x.take(0), NONE);
        Edges.due("none is left", x.count(8), 0);
        noPlaces(WholeSound::take);
    }

    private static void head() {
        Edges.in("Promise 28");
        Edges.says("HEAD of the STORE.");
        Edges.asks("0", EdgesOfReading::three, WholeSound::head, 0);
        Edges.asks("of what was packed", Edges::busy, WholeSound::head, 0);
        Edges.asks("1", WholeSound::new, WholeSound::head, 1);
        for (int head = 1; head <= 4; head++) {
            Edges.asks("HEAD " + head, broken(head), WholeSound::head, head);
        }
        WholeSound x = three();
        x.take(0);
        Edges.due("a byte taken", x.head(), 2);
        x = three();
        x.drop(19);
        Edges.due("20 bytes", x.head(), 1);
        x = three();
        x.drop(18);
        Edges.due("21 bytes", x.head(), 0);
    }

    /** Three FRAMES behind a HEAD that is not 0. */
    private static Supplier<WholeSound> broken(int head) {
        return () -> {
            WholeSound x = three();
            if (head == 1) {
                x.drop(19);
            } else {
                x.spoil(head == 2 ? 1 : head == 3 ? 4 : 20, 1);
            }
            return x;
        };
    }

    private static void noHead(String call, ToIntFunction<WholeSound> asking) {
        for (int head = 1; head <= 4; head++) {
            Edges.refuses(call + " by HEAD " + head, broken(head), asking);
        }
        Edges.refuses(call + " of a new object", WholeSound::new, asking);
    }

    private static void good() {
        Edges.in("Promise 29");
        Edges.says("FRAMES that are FOUND, as bits; NONE: HEAD is not 0.");
        Edges.asks("three", EdgesOfReading::three, WholeSound::good, 7);
        Edges.asks("none", () -> ordered(42), WholeSound::good, 0);
        Edges.asks("of no SAMPLES", () -> ordered(0), WholeSound::good, 0);
        Edges.asks("the last of 16", () -> ordered(256, 15), WholeSound::good, 1 << 15);
        Edges.asks("16", () -> Edges.stored(frames(256)), WholeSound::good, 65535);
        noHead("good()", WholeSound::good);
    }

    private static void seek() {
        Edges.in("Promise 30");
        Edges.says("Where a FRAME is FOUND, what 0: its place, 1: how many bytes it has; NONE: others, it is not FOUND, HEAD is not "
                + "0.");
        for (int number = 0; number < 3; number++) {
            int each = number;
            Edges.asks("place of " + number, EdgesOfReading::three, x -> x.seek(each, 0), 21 + 6 * number);
            Edges.asks("bytes of " + number, EdgesOfReading::three, x -> x.seek(each, 1), 6);
        }
        Edges.asks("the last of 16", () -> Edges.stored(frames(256)), x -> x.seek(15, 0), 21 + 15 * 6);
        Edges.asks("bytes of a longer one", () -> one(Edges.head(1, 8, 16, 16), "1001" + "01010101".repeat(16)),
                x -> x.seek(0, 1), 4 + 17);
        Edges.asks("no bit to fill", () -> one(Edges.head(1, 8, 16, 1), "0000" + "0000000" + "00001"), x -> x.seek(0, 1), 4 + 2);
        for (int number : new int[] {-1, 3, 15, 16, 17, 32, LOWEST, HIGHEST}) {
            Edges.refuses("place of " + number, EdgesOfReading::three, x -> x.seek(number, 0));
            Edges.refuses("bytes of " + number, EdgesOfReading::three, x -> x.seek(number, 1));
            Edges.refuses("place of " + number + " of no SAMPLES", () -> ordered(0), x -> x.seek(number, 0));
        }
        Edges.refuses("the 17th of 16", () -> Edges.stored(frames(256)), x -> x.seek(16, 0));
        for (int what : new int[] {-1, 2, LOWEST, HIGHEST}) {
            Edges.refuses("what " + what, EdgesOfReading::three, x -> x.seek(0, what));
        }
        Edges.refuses("not FOUND, place", () -> ordered(42, 0, 2), x -> x.seek(1, 0));
        Edges.refuses("not FOUND, bytes", () -> ordered(42, 0, 2), x -> x.seek(1, 1));
        Edges.refuses("GOOD, but not FOUND", () -> ordered(42, 1, 0), x -> x.seek(0, 0));
        noHead("seek(0, 0)", x -> x.seek(0, 0));
        noHead("seek(0, 1)", x -> x.seek(0, 1));
    }

    private static void holds() {
        Edges.in("Promise 31");
        Edges.says("The FRAME in which the i-th SAMPLE is, by the HEAD; NONE: none such, HEAD is not 0.");
        for (int i = 0; i < 42; i++) {
            int each = i;
            Edges.asks("SAMPLE " + i, EdgesOfReading::three, x -> x.holds(each), i / 16);
        }
        for (int i : new int[] {-1, 42, 48, 256, LOWEST, HIGHEST}) {
            Edges.refuses("SAMPLE " + i, EdgesOfReading::three, x -> x.holds(i));
        }
        Edges.asks("the last of 256", () -> ordered(256), x -> x.holds(255), 15);
        Edges.refuses("behind 256", () -> ordered(256), x -> x.holds(256));
        Edges.refuses("of no SAMPLES", () -> ordered(0), x -> x.holds(0));
        Edges.asks("63 of 64", () -> Edges.stored(Edges.head(2, 16, 64, 65)), x -> x.holds(63), 0);
        Edges.asks("64 of 64", () -> Edges.stored(Edges.head(2, 16, 64, 65)), x -> x.holds(64), 1);
        Edges.refuses("65 of 65", () -> Edges.stored(Edges.head(2, 16, 64, 65)), x -> x.holds(65));
        // By the HEAD, whatever is FOUND, and whatever is told.
        WholeSound x = ordered(42);
        x.channel(8);
        x.frame(64);
        Edges.due("by the HEAD", x.holds(41), 2);
        noHead("holds(0)", it -> it.holds(0));
    }

    private static void near() {
        Edges.in("Promise 32");
        Edges.says("The first place from one on (of those of the STORE) at which a FRAME of any number is GOOD; NONE: others, none, "
                + "HEAD is not 0.");
        for (int place = 0; place < 39; place++) {
            int each = place;
            int want = place <= 21 ? 21 : place <= 27 ? 27 : place <= 33 ? 33 : NONE;
            Edges.asks("near(" + place + ")", EdgesOfReading::three, x -> x.near(each), want);
        }
        Edges.asks("of any number", () -> ordered(42, 2, 1, 0), x -> x.near(28), 33);
        Edges.asks("in the HEAD", () -> Edges.stored(inHead()), x -> x.near(0), 7);
        Edges.asks("in the HEAD, at it", () -> Edges.stored(inHead()), x -> x.near(7), 7);
        Edges.refuses("in the HEAD, behind it", () -> Edges.stored(inHead()), x -> x.near(8));
        Edges.refuses("none", () -> ordered(42), x -> x.near(0));
        Edges.refuses("the last place", () -> ordered(42), x -> x.near(20));
        noPlaces(WholeSound::near);
        noHead("near(0)", x -> x.near(0));
    }

    private static void at() {
        Edges.in("Promise 33");
        Edges.says("The number of the FRAME that is GOOD at a place; NONE: others, none is, HEAD is not 0.");
        for (int place = 0; place < 39; place++) {
            int each = place;
            int want = place == 21 ? 0 : place == 27 ? 1 : place == 33 ? 2 : NONE;
            Edges.asks("at(" + place + ")", EdgesOfReading::three, x -> x.at(each), want);
        }
        Edges.asks("in the HEAD", () -> Edges.stored(inHead()), x -> x.at(7), 0);
        Edges.asks("GOOD, but not FOUND", () -> ordered(42, 2, 1), x -> x.at(27), 1);
        Edges.asks("the last of 16", () -> Edges.stored(frames(256)), x -> x.at(21 + 15 * 6), 15);
        noPlaces(WholeSound::at);
        noHead("at(21)", x -> x.at(21));
    }

    private static void heard() {
        Edges.in("Promise 34");
        Edges.says("What is HEARD; NoSuchElementException: HEAD is not 0, no such CHANNEL (of the HEAD), none such.");
        Edges.asks("the first", EdgesOfReading::three, x -> x.heard(0, 0), 1);
        Edges.asks("the last", EdgesOfReading::three, x -> x.heard(0, 41), 3);
        Edges.asks("not FOUND", () -> ordered(42), x -> x.heard(0, 41), 0);
        for (int i : new int[] {-1, 42, 256, LOWEST, HIGHEST}) {
            Edges.throwing("SAMPLE " + i, EdgesOfReading::three, x -> x.heard(0, i), NO_ELEMENT);
        }
        for (int channel : new int[] {-1, 1, 2, LOWEST, HIGHEST}) {
            Edges.throwing("CHANNEL " + channel, EdgesOfReading::three, x -> x.heard(channel, 0), NO_ELEMENT);
        }
        for (int channel : new int[] {-1, 2, LOWEST, HIGHEST}) {
            Edges.throwing("CHANNEL " + channel + " of two", Edges::busy, x -> x.heard(channel, 0), NO_ELEMENT);
        }
        Supplier<WholeSound> two = () -> Edges.stored(Edges.rows(Edges.head(2, 8, 64, 256),
                Edges.frame(3, "00" + still(5) + still(-6))));
        Edges.asks("the last of 256", two, x -> x.heard(0, 255), 5);
        Edges.asks("the last of 256", two, x -> x.heard(1, 255), -6);
        Edges.throwing("behind 256", two, x -> x.heard(0, 256), NO_ELEMENT);
        Edges.throwing("behind 256", two, x -> x.heard(1, 256), NO_ELEMENT);
        Edges.throwing("of no SAMPLES", () -> ordered(0), x -> x.heard(0, 0), NO_ELEMENT);
        Edges.throwing("of a new object", WholeSound::new, x -> x.heard(0, 0), NO_ELEMENT);
        // Of the HEAD: a sound of two CHANNELS over a STORE of one, and of one over two.
        Edges.throwing("CHANNEL 1 of the sound alone", () -> twoOver(three()), x -> x.heard(1, 0), NO_ELEMENT);
        Edges.throwing("SAMPLE 42 of the sound alone", () -> twoOver(three()), x -> x.heard(0, 42), NO_ELEMENT);
        WholeSound less = two.get();
        less.channel(8);
        Edges.due("CHANNEL 1 of the HEAD alone", less.heard(1, 255), -6);
        for (int head = 1; head <= 4; head++) {
            Edges.throwing("HEAD " + head, broken(head), x -> x.heard(0, 0), NO_ELEMENT);
        }
    }

    /** Two CHANNELS of 64 told over a STORE. */
    private static WholeSound twoOver(WholeSound x) {
        x.channel(8);
        x.channel(8);
        x.fill(0, 0, 64, 1, 0);
        x.fill(1, 0, 64, 1, 0);
        return x;
    }

    /** Two CHANNELS of 64 zeros over a STORE of one CHANNEL, of whose FRAMES the second is not there. */
    private static WholeSound silentOver() {
        WholeSound x = ordered(42, 0, 2);
        x.channel(8);
        x.channel(8);
        x.fill(0, 0, 64, 0, 0);
        x.fill(1, 0, 64, 0, 0);
        return x;
    }

    private static void same() {
        Edges.in("Promise 35");
        Edges.says("How many SAMPLES of all CHANNELS are HEARD as they are (of those that both have); NONE: HEAD is not 0.");
        Edges.asks("no CHANNEL", EdgesOfReading::three, WholeSound::same, 0);
        // Two of 64 ones over one CHANNEL of 16 ones and others: 16; over two CHANNELS of 3 ones: 6.
        Edges.asks("more CHANNELS", () -> twoOver(three()), WholeSound::same, 16);
        Edges.asks("two CHANNELS", () -> twoOver(one(Edges.head(2, 8, 16, 3), "00" + still(1) + still(1))), WholeSound::same, 6);
        Edges.asks("no second CHANNEL in the HEAD, so no 0 of it", EdgesOfReading::silentOver, WholeSound::same, 16);
        Edges.asks("the second alone", () -> twoOver(one(Edges.head(2, 8, 16, 3), "00" + still(2) + still(1))), WholeSound::same, 3);
        // 40 zeros, of which the HEAD has 32: 16 are not FOUND, so 0.
        Supplier<WholeSound> silent = () -> {
            WholeSound x = ordered(32, 0);
            x.channel(16);
            x.fill(0, 0, 40, 0, 0);
            return x;
        };
        Edges.asks("0 of what is not FOUND", silent, WholeSound::same, 16);
        Supplier<WholeSound> fewer = () -> {
            WholeSound x = three();
            x.channel(8);
            x.fill(0, 0, 10, 1, 0);
            return x;
        };
        Edges.asks("fewer SAMPLES", fewer, WholeSound::same, 10);
        Edges.asks("what was packed", Edges::busy, WholeSound::same, 40);
        Edges.asks("what is not READY", Edges::uneven, WholeSound::same, 40);
        Edges.asks("no SAMPLES in the HEAD", () -> twoOver(ordered(0)), WholeSound::same, 0);
        WholeSound most = Edges.sound(16, 2);
        for (int i = 0; i < 8; i++) {
            most.fill(i % 2, 3, 64, 32767, 0);
        }
        most.pack();
        Edges.due("512", most.same(), 512);
        noHead("same()", WholeSound::same);
    }

    private static void loud() {
        Edges.in("Promise 37");
        Edges.says("Of the double: the sum of the squares of the SAMPLES of a CHANNEL divided by how many there are, what 0: the upper, "
                + "1: the lower 32 bits;");
        int[][] rows = {{0}, {1}, {-1}, {-128, 127, 5}, {3, 4, 5, 6, 7, 8, 9}, Edges.times(64, -128), {0, 0, 1}, {127, 126, 3, 2, 2, 1, 7}};
        for (int[] row : rows) {
            double sum = 0;
            for (int value : row) {
                sum += (double) value * value;
            }
            long bits = Double.doubleToLongBits(sum / row.length);
            Edges.asks("upper", () -> Edges.of(8, row), x -> x.loud(0, 0), (int) (bits >>> 32));
            Edges.asks("lower", () -> Edges.of(8, row), x -> x.loud(0, 1), (int) bits);
        }
        WholeSound x = Edges.sound(16, 2);
        for (int i = 0; i < 4; i++) {
            x.fill(1, 0, 64, -32768, 0);
        }
        // 256 times 2 to the power of 30: more than an int has.
        Edges.due("the loudest, upper", x.loud(1, 0), (int) (Double.doubleToLongBits(1073741824.0) >>> 32));
        Edges.due("the loudest, lower", x.loud(1, 1), 0);
        x = Edges.of(16, 32767, -32768, 32766);
        long far = Double.doubleToLongBits((32767.0 * 32767.0 + 32768.0 * 32768.0 + 32766.0 * 32766.0) / 3.0);
        Edges.due("far, upper", x.loud(0, 0), (int) (far >>> 32));
        Edges.due("far, lower", x.loud(0, 1), (int) far);

        Edges.says("NoSuchElementException: others, there are none.");
        for (int channel : new int[] {-1, 2, LOWEST, HIGHEST}) {
            Edges.throwing("CHANNEL " + channel, Edges::busy, it -> it.loud(channel, 0), NO_ELEMENT);
        }
        for (int what : new int[] {-1, 2, LOWEST, HIGHEST}) {
            Edges.throwing("what " + what, Edges::busy, it -> it.loud(0, what), NO_ELEMENT);
        }
        Edges.throwing("CHANNEL 1 of one", () -> Edges.of(8, 1), it -> it.loud(1, 0), NO_ELEMENT);
        Edges.throwing("no CHANNEL", Edges::mute, it -> it.loud(0, 0), NO_ELEMENT);
        Edges.throwing("a new object", WholeSound::new, it -> it.loud(0, 1), NO_ELEMENT);
        for (int what = 0; what < 2; what++) {
            int each = what;
            Edges.throwing("no SAMPLES", () -> Edges.sound(8, 1), it -> it.loud(0, each), NO_ELEMENT);
            Edges.throwing("no SAMPLES of the second", EdgesOfReading::secondSilent, it -> it.loud(1, each), NO_ELEMENT);
        }
        Edges.asks("not READY", EdgesOfReading::secondSilent, it -> it.loud(0, 1), 0);
    }

    private static WholeSound secondSilent() {
        WholeSound x = Edges.sound(8, 2);
        x.fill(0, 0, 4, 3, 0);
        return x;
    }

    private static void count() {
        Edges.in("Promise 38");
        Edges.says("What 0: CHANNELS, 1: WIDTH (0: no CHANNEL), 2: FRAME, 3: EFFORT, 4: ALLOWED, as bits, 5, 6: SAMPLES of CHANNEL 0, 1 "
                + "(NONE: there is none such), 7: FRAMES, 8: bytes in the STORE, 9: on the TAPE, 10: the SEED.");
        int seed = 9;
        for (int i = 0; i < 20; i++) {
            seed = 1103515245 * seed + 12345;
        }
        int bytes = Edges.busy().size();
        int[] busy = {2, 8, 16, 0, 0b01101111, 20, 20, 2, bytes, 24, seed};
        int[] uneven = {2, 8, 16, 0, 0b01101111, 20, 21, 0, bytes, 24, seed};
        int[] mute = {0, 0, 40, 1, 7, NONE, NONE, 0, bytes, 0, 1};
        int[] narrow = {1, 8, 32, 1, 255, 3, NONE, 1, 0, 0, 1};
        int[] bare = {2, 16, 32, 1, 255, 0, 0, 0, 0, 0, 1};
        for (int what = 0; what <= 10; what++) {
            int each = what;
            Edges.asks("count(" + what + ")", Edges::busy, x -> x.count(each), busy[what]);
            Edges.asks("count(" + what + "), not READY", Edges::uneven, x -> x.count(each), uneven[what]);
            Edges.asks("count(" + what + "), no CHANNEL", Edges::mute, x -> x.count(each), mute[what]);
            Edges.asks("count(" + what + "), one CHANNEL", () -> Edges.of(8, 1, 2, 3), x -> x.count(each), narrow[what]);
            Edges.asks("count(" + what + "), no SAMPLES", () -> Edges.sound(16, 2), x -> x.count(each), bare[what]);
        }
        Edges.says("NONE for another what.");
        for (int what : new int[] {-1, 11, 12, LOWEST, HIGHEST}) {
            Edges.refuses("count(" + what + ")", Edges::busy, x -> x.count(what));
            Edges.refuses("count(" + what + ")", Edges::mute, x -> x.count(what));
        }
    }
}

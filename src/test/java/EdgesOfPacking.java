import java.util.function.Supplier;
import java.util.function.ToIntFunction;

/** Boundary cases of how a sound would be packed: parts 2 and 3 of the document's terms, promises 12 to 23 and 36. */
final class EdgesOfPacking {
    private static final int NONE = Edges.NONE;
    private static final int LOWEST = Integer.MIN_VALUE;
    private static final int HIGHEST = Integer.MAX_VALUE;
    // Worked out with another program.
    private static final int HEAD_CHECK = 0xa55b;
    private static final int FRAME_CHECK = 0x939e;
    private static final int SECOND_CHECK = 0xa4ae;

    private EdgesOfPacking() {
    }

    static void all() {
        joins();
        widths();
        kindsOfRow();
        groups();
        fixedRuns();
        splitRuns();
        cuts();
        predictorOfLeastBits();
        leastEffort();
        leastSum();
        how();
        joinOfLeastBits();
        packed();
        frameBits();
        runBits();
        wholeBytes();
        check();
        store();
        join();
        joined();
        row();
        run();
        residual();
        tried();
        mean();
        size();
        sized();
        without();
        best();
        pack();
        ratio();
    }

    // ---- terms, part 2 ----

    private static WholeSound two(int width, int[] left, int[] right) {
        WholeSound x = Edges.sound(width, 2);
        Edges.put(x, 0, left);
        Edges.put(x, 1, right);
        x.allow(0);
        return x;
    }

    private static void dueRow(WholeSound x, int row, int even, int odd) {
        Edges.due("row " + row + ", 0", x.residual(0, row, 0, 0), even);
        Edges.due("row " + row + ", 7", x.residual(0, row, 0, 7), odd);
    }

    private static void joins() {
        Edges.in("Terms 2");
        Edges.says("JOINS of the FRAME of two CHANNELS l, r into two ROWS: 0: l, r; 1: l, s; 2: s, r; 3: m, s: s is l - r, "
                + "m is l + r, shifted to the right by 1.");
        WholeSound x = two(8, Edges.times(8, 5), Edges.times(8, 7));
        Edges.due("5 and 7", x.join(0), 0);
        dueRow(x, 0, 5, 5);
        dueRow(x, 1, 7, 7);
        x = two(8, Edges.times(8, 20), Edges.turns(8, 20, 24));
        Edges.due("20 and 20, 24", x.join(0), 1);
        dueRow(x, 0, 20, 20);
        dueRow(x, 1, 0, -4);
        x = two(8, Edges.turns(8, 20, 24), Edges.times(8, 20));
        Edges.due("20, 24 and 20", x.join(0), 2);
        dueRow(x, 0, 0, 4);
        dueRow(x, 1, 20, 20);
        // -20 and -21 make -41: by 2, downwards, -21.
        x = two(8, Edges.turns(8, -20, -21), Edges.turns(8, -21, -20));
        Edges.due("-20, -21 and -21, -20", x.join(0), 3);
        dueRow(x, 0, -21, -21);
        dueRow(x, 1, 1, -1);
        // The ends of both: 127 less -128 and back.
        x = two(8, Edges.turns(8, 127, -128), Edges.turns(8, -128, 127));
        Edges.due("the ends of 8 bits", x.join(0), 3);
        dueRow(x, 0, -1, -1);
        dueRow(x, 1, 255, -255);
        x = two(16, Edges.turns(8, 32767, -32768), Edges.turns(8, -32768, 32767));
        Edges.due("the ends of 16 bits", x.join(0), 3);
        dueRow(x, 0, -1, -1);
        dueRow(x, 1, 65535, -65535);

        Edges.says("(Of one CHANNEL: JOIN 0, its ROW alone.)");
        Edges.asks("join(0)", () -> Edges.of(8, 5, 6), it -> it.join(0), 0);
        Edges.asks("row 0", () -> Edges.of(8, 5, 6), it -> it.residual(0, 0, 0, 1), 6);
        Edges.refuses("row 1", () -> Edges.of(8, 5, 6), it -> it.row(0, 1, 0));
        for (int join = 1; join <= 3; join++) {
            int each = join;
            Edges.refuses("joined(0, " + join + ")", () -> Edges.of(8, 5, 6), it -> it.joined(0, each));
        }
    }

    private static void widths() {
        Edges.says("BITS of a number: WIDTH, of those of s 1 more.");
        for (int width : new int[] {8, 16}) {
            WholeSound x = two(width, Edges.times(8, 3), Edges.times(8, -3));
            // l, r, s, m are STILL all.
            Edges.due("l, r", x.joined(0, 0), 4 + width + 4 + width);
            Edges.due("l, s", x.joined(0, 1), 4 + width + 4 + width + 1);
            Edges.due("s, r", x.joined(0, 2), 4 + width + 1 + 4 + width);
            Edges.due("m, s", x.joined(0, 3), 4 + width + 4 + width + 1);
            int half = width == 8 ? 128 : 32768;
            x = two(width, Edges.turns(12, half - 1, -half), Edges.turns(12, -half, half - 1));
            // l, r, s are PLAIN, m is STILL.
            Edges.due("l, r", x.joined(0, 0), 2 * (4 + 12 * width));
            Edges.due("l, s", x.joined(0, 1), 4 + 12 * width + 4 + 12 * (width + 1));
            Edges.due("s, r", x.joined(0, 2), 4 + 12 * width + 4 + 12 * (width + 1));
            Edges.due("m, s", x.joined(0, 3), 4 + width + 4 + 12 * (width + 1));
            Edges.due("s by 4: four first ones, eight of 16 times as much", x.tried(0, 1, 4),
                    4 + 4 * (width + 1) + 12 + 8 * (width + 5));
            Edges.due("m by 4: four first ones", x.tried(0, 0, 4), 4 + 4 * width + 7);
        }
    }

    private static void kindsOfRow() {
        Edges.says("Of a ROW of n numbers: STILL, if all are one: 4 and the BITS.");
        for (int many : new int[] {1, 2, 63, 64}) {
            for (int value : new int[] {0, -128, 127}) {
                WholeSound x = Edges.of(8, Edges.times(many, value));
                x.frame(64);
                Edges.due(many + " of " + value, x.row(0, 0, 0), 8);
                Edges.due(many + " of " + value, x.row(0, 0, 1), 12);
                Edges.due(many + " of " + value, x.row(0, 0, 2), 0);
            }
            if (many > 1) {
                int[] last = Edges.times(many, 3);
                last[many - 1] = 4;
                int[] first = Edges.times(many, 3);
                first[0] = 4;
                WholeSound x = Edges.of(8, last);
                x.frame(64);
                Edges.due("the last is another", x.row(0, 0, 0) == 8 ? 1 : 0, 0);
                x = Edges.of(8, first);
                x.frame(64);
                Edges.due("the first is another", x.row(0, 0, 0) == 8 ? 1 : 0, 0);
            }
        }
        Edges.due("of 16 bits", Edges.of(16, -32768).row(0, 0, 1), 20);

        Edges.says("PLAIN: 4 and n times the BITS.");
        for (int many : new int[] {2, 5, 16, 32}) {
            Edges.due(many + " of 8 bits", Edges.unguessed(8, Edges.turns(many, -128, 127)).row(0, 0, 1), 4 + 8 * many);
            Edges.due(many + " of 16 bits", Edges.unguessed(16, Edges.turns(many, -32768, 32767)).row(0, 0, 1), 4 + 16 * many);
        }

        Edges.says("By a PREDICTOR of an ORDER less than n: 4, the BITS of each of the first ORDER numbers, and RUNS of the "
                + "RESIDUALS of the others.");
        for (int many = 1; many <= 6; many++) {
            int each = many;
            for (int which = 0; which <= 7; which++) {
                int predictor = which;
                int order = which <= 4 ? which : which - 4;
                Edges.asks("by " + which + " of " + many, () -> silent(each), x -> x.tried(0, 0, predictor),
                        order < many ? 4 + 8 * order + 7 : NONE);
            }
        }
        // Of 16 bits, 2, 4 behind the first ORDER numbers; residuals 0 but of 2: 4 - 2 * 2 + 0.
        WholeSound x = Edges.of(16, 0, 2, 4);
        Edges.due("by 2 of 3", x.tried(0, 0, 2), 4 + 32 + 7);
        Edges.due("by 1 of 3: 2, 2", x.tried(0, 0, 1), 4 + 16 + 7 + 2 * 4);
    }

    /** So many zeros; 5, 6, 7 are of ORDER 1, 2, 3. */
    private static WholeSound silent(int many) {
        WholeSound x = Edges.of(8, Edges.times(many, 0));
        x.predictor(5, 1, 0, 0, 0);
        x.predictor(6, 0, 1, 0, 0);
        x.predictor(7, 0, 0, 1, 0);
        return x;
    }

    private static void groups() {
        Edges.says("GROUPS of RESIDUALS: 8 each from the first on, the last one of what is left.");
        for (int many = 2; many <= 64; many++) {
            // Zeros and a -1: one RUN of all.
            int[] values = Edges.times(many, 0);
            values[many - 1] = -1;
            WholeSound x = Edges.unguessed(8, values);
            x.frame(64);
            x.effort(0);
            Edges.due("GROUPS of " + many, x.run(0, 0, 0, 0), (many + 7) / 8);
            // By 1 there is one residual less; it is of the lesser sum.
            for (int i = 0; i < many; i++) {
                values[i] += 50;
            }
            x = Edges.of(8, values);
            x.frame(64);
            x.effort(0);
            x.allow(2);
            // Two numbers are PLAIN.
            Edges.due("GROUPS by 1 of " + many, x.run(0, 0, 0, 0), many == 2 ? NONE : (many + 6) / 8);
        }
        // 8 zeros, then so many of 100 and -100: the second RUN has so many RESIDUALS.
        for (int many = 1; many <= 8; many++) {
            WholeSound x = Edges.unguessed(8, Edges.rows(Edges.times(8, 0), Edges.turns(many, 100, -100)));
            Edges.due("the last of " + many, x.tried(0, 0, 0), 4 + 7 + Math.min(12 + 8 * many, 7 + 9 * many));
        }

        Edges.says("A RUN is of 1 to 8 GROUPS one behind another, by a PARAMETER:");
        WholeSound x = Edges.unguessed(8, Edges.turns(64, 1, -1));
        x.frame(64);
        Edges.due("one RUN", x.row(0, 0, 2), 1);
        Edges.due("of 8 GROUPS", x.run(0, 0, 0, 0), 8);
        Edges.due("bits", x.run(0, 0, 0, 2), 12 + 2 * 64);
        int[] loud = Edges.rows(Edges.times(8, 0), Edges.turns(8, 100, -100));
        x = Edges.unguessed(8, Edges.rows(loud, loud, loud, loud));
        x.frame(64);
        Edges.due("eight RUNS", x.row(0, 0, 2), 8);
        Edges.due("bits", x.row(0, 0, 1), 4 + 4 * (7 + 12 + 8 * 8));
        for (int i = 0; i < 8; i++) {
            Edges.due("GROUPS of RUN " + i, x.run(0, 0, i, 0), 1);
            Edges.due("PARAMETER of RUN " + i, x.run(0, 0, i, 1), i % 2 == 0 ? 15 : 14);
        }
        Edges.due("no ninth", x.run(0, 0, 8, 0), NONE);
    }

    private static void fixedRuns() {
        Edges.says("15 (all are 0): 7 bits.");
        for (int groups = 1; groups <= 7; groups++) {
            WholeSound x = Edges.unguessed(8, Edges.rows(Edges.times(8 * groups, 0), Edges.turns(8, 100, -100)));
            x.frame(64);
            Edges.due("GROUPS", x.run(0, 0, 0, 0), groups);
            Edges.due("15", x.run(0, 0, 0, 1), 15);
            Edges.due("bits", x.run(0, 0, 0, 2), 7);
        }
        for (int odd : new int[] {-1, 1}) {
            int[] values = Edges.times(8, 0);
            values[7] = odd;
            WholeSound x = Edges.unguessed(8, values);
            Edges.due("all but one are 0", x.run(0, 0, 0, 1), 0);
            Edges.due("bits", x.run(0, 0, 0, 2), 7 + 8 + (odd < 0 ? 1 : 2));
        }

        Edges.says("14: 12, and W for each: W is the least, 1 or more, so that all are from - 2 to the power of (W - 1) to that "
                + "less 1.");
        for (int w = 1; w <= 15; w++) {
            int half = 1 << w - 1;
            dueWidth(Edges.times(8, -half), w);
            dueWidth(Edges.times(8, -half - 1), w + 1);
            dueWidth(Edges.times(8, half), w + 1);
            if (w > 1) {
                dueWidth(Edges.times(8, half - 1), w);
            }
            int[] mixed = Edges.times(8, half);
            mixed[3] = -half;
            dueWidth(mixed, w + 1);
        }
        // The lowest of 16 bits is of W 16, and so is its turn about.
        dueWidth(Edges.turns(8, -32768, -32767), 16);
        dueWidth(Edges.turns(8, 32767, -32768), 16);
        // Far beyond 16 bits: 32767 and three times -31 of it: 94 * 32767 is less than 2 to the power of 22.
        WholeSound x = Edges.of(16, Edges.times(11, 32767));
        x.predictor(7, -31, -31, -31, 0);
        Edges.due("W 23", x.tried(0, 0, 7), 4 + 48 + 12 + 8 * 23);
    }

    /** By PARAMETER 14 of this W, in front of zeros; 8 numbers of one size cost 3 bits more by another one. */
    private static void dueWidth(int[] eight, int w) {
        WholeSound x = Edges.unguessed(16, Edges.rows(eight, Edges.times(24, 0)));
        Edges.due("PARAMETER of " + eight[0], x.run(0, 0, 0, 1), 14);
        Edges.due("bits of " + eight[0], x.run(0, 0, 0, 2), 12 + 8 * w);
        Edges.due("GROUPS of " + eight[0], x.run(0, 0, 0, 0), 1);
    }

    /** Four of u up to 2 to the power of p, three of just so much, one of three times that: least by PARAMETER p. */
    private static int[] fitFor(int p) {
        int[] us = {(1 << p) - 1, 1 << p, (1 << p) - 1, 1 << p, (1 << p) - 1, 1 << p, (1 << p) - 1, 3 << p};
        int[] values = new int[8];
        for (int i = 0; i < 8; i++) {
            values[i] = us[i] % 2 == 0 ? us[i] / 2 : -(us[i] + 1) / 2;
        }
        return values;
    }

    private static void splitRuns() {
        Edges.says("0 to 13: 7, and for each RESIDUAL, u being 2 times it, or, if it is below 0, -2 times it less 1: u / 2 to the "
                + "power of the PARAMETER, cut, and 1, and the PARAMETER.");
        for (int p = 0; p <= 13; p++) {
            WholeSound x = Edges.unguessed(16, fitFor(p));
            Edges.due("PARAMETER", x.run(0, 0, 0, 1), p);
            Edges.due("bits", x.run(0, 0, 0, 2), 7 + 4 * (1 + p) + 3 * (2 + p) + 4 + p);
            Edges.due("HOW", x.row(0, 0, 0), 0);
            // Behind a GROUP of the ends of 16 bits, which stands alone by 12 + 8 * 16.
            x = Edges.unguessed(16, Edges.rows(Edges.turns(8, 32767, -32768), fitFor(p), Edges.times(8, 0)));
            Edges.due("RUNS", x.row(0, 0, 2), 3);
            Edges.due("PARAMETER of the second", x.run(0, 0, 1, 1), p);
            Edges.due("bits of the second", x.run(0, 0, 1, 2), 21 + 8 * p);
        }
        // By 13 133 bits, by 12 and by 14 140.
        WholeSound x = Edges.unguessed(16, Edges.rows(Edges.times(7, 5000), Edges.times(1, 32767), Edges.times(24, 0)));
        Edges.due("13", x.run(0, 0, 0, 1), 13);
        Edges.due("bits", x.run(0, 0, 0, 2), 7 + 7 * 15 + 7 + 14);

        Edges.says("EFFORT 1: each RUN has the PARAMETER of the least bits (of equal ones the lowest);");
        // u 2, 1: by 0 3 and 2, by 1 3 and 2.
        x = Edges.unguessed(8, Edges.turns(8, 1, -1));
        Edges.due("0 of 0, 1", x.run(0, 0, 0, 1), 0);
        Edges.due("bits", x.run(0, 0, 0, 2), 7 + 4 * 3 + 4 * 2);
        // u 2 four times, 3: by 1, by 2 and by 14 22 bits.
        x = Edges.unguessed(8, 1, 1, 1, 1, -2);
        Edges.due("1 of 1, 2, 14", x.run(0, 0, 0, 1), 1);
        Edges.due("bits", x.run(0, 0, 0, 2), 22);
        // The fifth one gone: by 14 it would be one bit more; one more, and it is the least.
        Edges.due("1 of four", Edges.unguessed(8, 1, 1, 1, -2).run(0, 0, 0, 1), 1);
        x = Edges.unguessed(8, 1, 1, 1, 1, 1, -2);
        Edges.due("14 of six", x.run(0, 0, 0, 1), 14);
        Edges.due("bits", x.run(0, 0, 0, 2), 12 + 12);
    }

    private static void dueRuns(String what, int bits, int[] groups, int... values) {
        WholeSound x = Edges.unguessed(8, values);
        x.frame(64);
        Edges.due(what + ", bits", x.row(0, 0, 1), 4 + bits);
        Edges.due(what + ", RUNS", x.row(0, 0, 2), groups.length);
        for (int i = 0; i < groups.length; i++) {
            Edges.due(what + ", GROUPS of " + i, x.run(0, 0, i, 0), groups[i]);
        }
    }

    private static void cuts() {
        Edges.says("the RUNS are those that have the least bits together; of these the fewest; of these with the longest first "
                + "RUN, then second, on and on.");
        // Alone: -1: 20 (W 1), 1: 28, 3: 36. Two: 44 and 60. -1 and 1, then 3: 80; -1, then 1 and 3: 80; all: 84.
        int[] stairs = Edges.rows(Edges.times(8, -1), Edges.times(8, 1), Edges.times(8, 3));
        dueRuns("the longest first", 80, new int[] {2, 1}, stairs);
        // The same behind 8 of 100, which stand alone by 12 + 64: then the second is the longest.
        dueRuns("the longest second", 76 + 80, new int[] {1, 2, 1}, Edges.rows(Edges.times(8, 100), stairs));
        // Behind two such that stand alone: then the third.
        dueRuns("the longest third", 76 + 7 + 80, new int[] {1, 1, 2, 1},
                Edges.rows(Edges.times(8, 100), Edges.times(8, 0), stairs));
        // A -1 and 14 zeros: 7 + 9 and 7 apart, 7 + 16 together: the fewest.
        dueRuns("the fewest", 23, new int[] {2}, Edges.rows(Edges.times(1, -1), Edges.times(14, 0)));
        // A zero more, and the cut is one bit less.
        dueRuns("the least", 23, new int[] {1, 1}, Edges.rows(Edges.times(1, -1), Edges.times(15, 0)));
        // 5, 2, (0 and a -1), 2: 44 + 84 in two, 76 + 16 + 36 in three: as many bits, the fewest RUNS, the first one shorter.
        dueRuns("the fewest ahead of the longest", 128, new int[] {1, 3}, Edges.rows(Edges.times(8, 5), Edges.times(8, 2),
                Edges.times(7, 0), Edges.times(1, -1), Edges.times(8, 2)));
    }

    private static WholeSound ramp(int allowed) {
        WholeSound x = Edges.sound(16, 1);
        x.fill(0, 1, 16, 0, 3);
        x.predictor(5, 2, -1, 0, 0);
        x.predictor(6, 2, -1, 0, 0);
        x.predictor(7, 2, -1, 0, 0);
        x.allow(allowed);
        return x;
    }

    private static void predictorOfLeastBits() {
        Edges.says("The ROW's PREDICTOR is the ALLOWED one of the least bits, of equal ones the lowest.");
        // 2, 5, 6, 7 have 43 bits, 3 has 59, 4 75, 1 77, 0 more.
        int[][] allowed = {{255, 2}, {0b11111011, 5}, {0b11011011, 6}, {0b10011011, 7}, {0b00011011, 3}, {0b00010011, 4}, {2, 1},
            {0, 0}, {128, 7}};
        for (int[] each : allowed) {
            Edges.due("HOW by " + each[0], ramp(each[0]).row(0, 0, 0), each[1]);
        }
        WholeSound x = ramp(0b00000100);
        Edges.due("bits", x.row(0, 0, 1), 43);
        Edges.due("one that is not ALLOWED", x.tried(0, 0, 3), 59);
        // Zeros and a -1: 0 and the told ones, which are of ORDER 0 at first, are equal.
        x = Edges.of(8, 0, 0, 0, 0, 0, 0, 0, -1);
        Edges.due("0 of 0, 5, 6, 7", x.row(0, 0, 0), 0);
    }

    // ---- EFFORT 0 ----

    private static WholeSound lazy(int width, int... values) {
        WholeSound x = Edges.unguessed(width, values);
        x.effort(0);
        return x;
    }

    private static void leastEffort() {
        Edges.says("EFFORT 0: one RUN of all GROUPS; by the MEAN, a single-precision float: the sum of the sizes of the RESIDUALS "
                + "(their signs left out) divided by how many there are:");
        // Four groups of zeros and loud ones in turn: one RUN still. The mean is 16 * 100 / 32.
        int[] loud = Edges.rows(Edges.times(8, 0), Edges.turns(8, 100, -100));
        WholeSound x = lazy(16, Edges.rows(loud, loud));
        Edges.due("RUNS", x.row(0, 0, 2), 1);
        Edges.due("GROUPS", x.run(0, 0, 0, 0), 4);
        Edges.due("PARAMETER", x.run(0, 0, 0, 1), 6);
        Edges.due("bits", x.run(0, 0, 0, 2), 7 + 16 * 7 + 16 * (3 + 7));
        Edges.due("mean", x.mean(0, 0, 0), Float.floatToIntBits(50f));
        Edges.due("a third, rounded", lazy(8, 1, -1, 8).mean(0, 0, 0), Float.floatToIntBits(10f / 3f));
        Edges.due("signs left out", lazy(8, -5, 5).mean(0, 0, 0), Float.floatToIntBits(5f));
        Edges.due("one RESIDUAL", lazy(8, 0, 7).mean(0, 0, 1), Float.floatToIntBits(7f));

        Edges.says("15, if the sum is 0; else 1 more than the power of 2 that is the greatest no more than the MEAN, 0 at least, "
                + "13 at most.");
        for (int power = 0; power <= 12; power++) {
            int size = 1 << power;
            // 16 of this size: the power itself; one of them 1 less: the power below it.
            int[] values = Edges.turns(16, size, -size);
            Edges.due("mean 2 to the power of " + power, lazy(16, values).run(0, 0, 0, 1), power + 1);
            values[5] = 1 - size;
            Edges.due("a 16th less than 2 to the power of " + power, lazy(16, values).run(0, 0, 0, 1), power);
        }
        // From 4096 on it is 13: of 8192 and -8192 u by 8192 is 2 and 1, of 16384 and -16384 4 and 3.
        Edges.due("8192", lazy(16, Edges.turns(16, 8192, -8192)).run(0, 0, 0, 1), 13);
        Edges.due("16384", lazy(16, Edges.turns(16, 16384, -16384)).tried(0, 0, 0), 4 + 7 + 16 * 14 + 8 * 4 + 8 * 3);
        Edges.due("32767", lazy(16, Edges.turns(16, 32767, -32767)).tried(0, 0, 0), 4 + 7 + 16 * 14 + 16 * 7);
        // Below 1 it is 0: a half, a 64th.
        Edges.due("a half", lazy(8, Edges.turns(16, 0, 1)).run(0, 0, 0, 1), 0);
        x = lazy(8, Edges.rows(Edges.times(63, 0), Edges.times(1, 1)));
        x.frame(64);
        Edges.due("a 64th", x.run(0, 0, 0, 1), 0);
        Edges.due("a 64th, bits", x.run(0, 0, 0, 2), 7 + 64 + 2);
        x = lazy(16, 0, 3, 6, 9, 12);
        x.allow(4);
        Edges.due("a sum of 0", x.run(0, 0, 0, 1), 15);
        Edges.due("a sum of 0, bits", x.run(0, 0, 0, 2), 7);
    }

    private static void leastSum() {
        Edges.says("The ROW's PREDICTOR is the ALLOWED one of the least such sum, of equal ones the lowest.");
        // 0, 1, 2, 3: by 2 the sum is 0 and it has 43 bits; by 0 it is 6, and it has 4 + 7 + 2 + 3 + 4 + 5.
        WholeSound x = Edges.of(16, 0, 1, 2, 3);
        x.effort(0);
        Edges.due("by 0, bits", x.tried(0, 0, 0), 25);
        Edges.due("the least sum", x.row(0, 0, 0), 2);
        Edges.due("bits", x.row(0, 0, 1), 43);
        // 3 has a sum of 0, too; without 2 it is the one. Then 1: 3, 0: 6.
        x.allow(0b11111011);
        Edges.due("without 2", x.row(0, 0, 0), 3);
        x.allow(0b11110011);
        Edges.due("without 2, 3", x.row(0, 0, 0), 1);
        x.allow(0b11110001);
        Edges.due("without 1, 2, 3", x.row(0, 0, 0), 0);
        x.predictor(6, 1, 0, 0, 0);
        x.allow(0b11110011);
        Edges.due("1 of 1, 6", x.row(0, 0, 0), 1);
        x.allow(0b11110001);
        Edges.due("6", x.row(0, 0, 0), 6);

        Edges.says("(Those of an ORDER of n and more aside.)");
        // Of two numbers PREDICTORS of ORDER 2 and more would have no RESIDUALS: a sum of 0, and the bits of PLAIN.
        for (int effort = 0; effort <= 1; effort++) {
            x = Edges.of(8, 100, -100);
            x.effort(effort);
            x.predictor(5, 0, 1, 0, 0);
            x.predictor(6, 0, 0, 1, 0);
            Edges.due("HOW of two", x.row(0, 0, 0), 9);
            Edges.due("bits of two", x.row(0, 0, 1), 4 + 16);
            x = Edges.of(8, 1, 0);
            x.effort(effort);
            Edges.due("HOW of 1, 0", x.row(0, 0, 0), 0);
            // Of three the one of ORDER 2 may be it: 50, 100, 150 is out of 8 bits, so 20, 60, 100.
            x = Edges.of(8, 20, 60, 100);
            x.effort(effort);
            Edges.due("HOW of three", x.row(0, 0, 0), 2);
            Edges.due("bits of three", x.row(0, 0, 1), 4 + 16 + 7);
            x.predictor(5, 31, 31, 31, 0);
            Edges.due("ORDER 3 of three", x.tried(0, 0, 5), NONE);
        }
    }

    private static void how() {
        Edges.says("A ROW is STILL, if it can be; else by its PREDICTOR, if that has no more bits than PLAIN; else PLAIN.");
        // Zeros by 0 have 4 + 7 bits, less than STILL.
        WholeSound x = Edges.of(16, Edges.times(16, 0));
        Edges.due("STILL", x.row(0, 0, 0), 8);
        Edges.due("STILL, bits", x.row(0, 0, 1), 20);
        Edges.due("by 0", x.tried(0, 0, 0), 11);
        // 63 and -63 by 0: 12 + 7 for each: of twelve as many as PLAIN, of eleven one more, of thirteen one less.
        Edges.due("as many as PLAIN", Edges.unguessed(8, Edges.turns(12, 63, -63)).row(0, 0, 0), 0);
        Edges.due("as many as PLAIN, bits", Edges.unguessed(8, Edges.turns(12, 63, -63)).row(0, 0, 1), 4 + 96);
        Edges.due("as many as PLAIN, RUNS", Edges.unguessed(8, Edges.turns(12, 63, -63)).row(0, 0, 2), 1);
        Edges.due("one more than PLAIN", Edges.unguessed(8, Edges.turns(11, 63, -63)).row(0, 0, 0), 9);
        Edges.due("one more than PLAIN, bits", Edges.unguessed(8, Edges.turns(11, 63, -63)).row(0, 0, 1), 4 + 88);
        Edges.due("one more than PLAIN, by 0", Edges.unguessed(8, Edges.turns(11, 63, -63)).tried(0, 0, 0), 4 + 89);
        Edges.due("one less than PLAIN", Edges.unguessed(8, Edges.turns(13, 63, -63)).row(0, 0, 1), 4 + 103);
        // With EFFORT 0 the one of the least sum is held against PLAIN, though another one had fewer bits.
        x = lazy(8, Edges.rows(Edges.times(16, 0), Edges.turns(16, 100, -100)));
        Edges.due("EFFORT 0: PLAIN", x.row(0, 0, 0), 9);
        Edges.due("EFFORT 0: by 0", x.tried(0, 0, 0), 4 + 7 + 16 * 7 + 16 * 10);

        Edges.says("HOW: the PREDICTOR, 8 STILL, 9 PLAIN.");
        for (int which = 0; which <= 7; which++) {
            x = Edges.sound(16, 1);
            // By each a row that it guesses whole: 1, 2, 4 ..; 0, 1, 3 .. and the like; 0 has zeros and a -1.
            tellGuessed(x, which);
            x.allow(1 << which);
            Edges.due("PREDICTOR", x.row(0, 0, 0), which);
        }
        Edges.due("STILL", Edges.of(8, 1, 1).row(0, 0, 0), 8);
        Edges.due("PLAIN", Edges.unguessed(8, 127, -128).row(0, 0, 0), 9);
    }

    private static void tellGuessed(WholeSound x, int which) {
        int[][] rows = {{0, 0, 0, 0, 0, 0, 0, -1}, {900, 900, 900, 900, 900, 900, 900, 901}, {0, 900, 1800, 2700, 3600, 4500},
            {0, 900, 2700, 5400, 9000, 13500}, {0, 900, 3600, 9000, 18000, 31500}, {1000, 2000, 4000, 8000, 16000},
            {500, 1000, 1500, 3000, 4500, 9000, 13500}, {700, 300, 500, 1400, 600, 1000, 2800, 1200, 2000}};
        Edges.put(x, 0, rows[which]);
        x.predictor(5, 2, 0, 0, 0);
        x.predictor(6, 0, 3, 0, 0);
        x.predictor(7, 0, 0, 2, 0);
    }

    private static void joinOfLeastBits() {
        Edges.says("The JOIN of a FRAME is that of the least bits of its ROWS, of equal ones the lowest.");
        // l is 0, r 1 and -1 in turn, so s is as dear as r: 12 + 4 + 27 by 0 and by 1.
        WholeSound x = two(8, Edges.times(8, 0), Edges.turns(8, 1, -1));
        Edges.due("l, r", x.joined(0, 0), 12 + 31);
        Edges.due("l, s", x.joined(0, 1), 12 + 31);
        Edges.due("0 of 0, 1", x.join(0), 0);
        // r is 0: s is l. 0 and 2 are equal.
        x = two(8, Edges.turns(8, 1, -1), Edges.times(8, 0));
        Edges.due("l, r", x.joined(0, 0), 12 + 31);
        Edges.due("s, r", x.joined(0, 2), 12 + 31);
        Edges.due("0 of 0, 2", x.join(0), 0);
        // 0, 3, 6 .. and one more: l, r, m have 43 bits, s, which is STILL, 21.
        x = Edges.sound(16, 2);
        x.fill(0, 1, 16, 0, 3);
        x.fill(1, 4, 16, 1, 0);
        for (int join = 1; join <= 3; join++) {
            Edges.due("joined(0, " + join + ")", x.joined(0, join), 64);
        }
        Edges.due("l, r", x.joined(0, 0), 86);
        Edges.due("1 of 1, 2, 3", x.join(0), 1);
        // r, m are alike, l is dear: 2 and 3 are the least. l is r but for its last, which is 1 more: m is r.
        int[] right = Edges.turns(8, 20, 24);
        int[] left = right.clone();
        left[7] = 25;
        x = two(8, left, right);
        Edges.due("s, r", x.joined(0, 2), 64 + 21);
        Edges.due("m, s", x.joined(0, 3), 64 + 21);
        Edges.due("l, s", x.joined(0, 1), 64 + 21);
        Edges.due("1 of 1, 2, 3, by 0", x.join(0), 1);
        left[7] = 32;
        x = two(8, left, right);
        // 32 has W 7 where 24 has 6: l is dearer than r, m (28 at the end) is not.
        Edges.due("2 of 2, 3", x.join(0), 2);
        Edges.due("s, r is m, s", x.joined(0, 2), x.joined(0, 3));
    }

    // ---- terms, part 3 ----

    private static void packed() {
        Edges.in("Terms 3");
        Edges.says("PACKED, if it is READY: bytes.");
        Edges.refuses("no CHANNEL", Edges::mute, WholeSound::pack);
        Edges.refuses("not READY", Edges::uneven, WholeSound::pack);
        WholeSound x = Edges.sound(8, 2);
        Edges.due("no SAMPLES", x.pack(), 21);
        Edges.dueStore(x, Edges.head(2, 8, 32, 0));

        Edges.says("HEAD, 21: 83, 80, CHANNELS, WIDTH, FRAME, SAMPLES of each CHANNEL by 256, cut, and the rest; of PREDICTORS 5, 6, "
                + "7 three weights (modulo 256) and SHIFT; CHECK.");
        x = Edges.sound(16, 1);
        x.frame(64);
        x.predictor(5, -31, 31, -1, 4);
        x.predictor(6, 0, -2, 0, 0);
        x.predictor(7, 1, 0, -31, 3);
        x.pack();
        Edges.dueStore(x, Edges.head(1, 16, 64, 0, 225, 31, 255, 4, 0, 254, 0, 0, 1, 0, 225, 3));
        for (int many : new int[] {1, 255, 256}) {
            x = Edges.sound(8, 2);
            x.frame(16);
            for (int left = many; left > 0; left -= 64) {
                x.fill(0, 0, Math.min(left, 64), 1, 0);
                x.fill(1, 0, Math.min(left, 64), 2, 0);
            }
            x.pack();
            Edges.due("SAMPLES by 256 of " + many, x.store(5), many / 256);
            Edges.due("the rest of " + many, x.store(6), many % 256);
            int[] head = Edges.head(2, 8, 16, many);
            for (int i = 0; i < 21; i++) {
                Edges.due("HEAD " + i, x.store(i), head[i]);
            }
        }
    }

    private static void frameBits() {
        Edges.says("Then the FRAMES: 165; its number; then by bits, the highest of a number first: of two CHANNELS the JOIN in 2; of "
                + "each ROW: HOW in 4; STILL: the number in its BITS; PLAIN: each in its BITS;");
        WholeSound x = Edges.of(8, Edges.times(33, 5));
        x.frame(16);
        x.pack();
        String five = "1000" + "00000101";
        Edges.dueStore(x, Edges.rows(Edges.head(1, 8, 16, 33), Edges.frame(0, five), Edges.frame(1, five), Edges.frame(2, five)));
        x = Edges.unguessed(16, 32767, -32768);
        x.pack();
        Edges.dueStore(x, Edges.rows(Edges.head(1, 16, 32, 2), Edges.frame(0, "1001" + "0" + "1".repeat(16) + "0".repeat(15))));
        x = two(8, Edges.times(8, 5), Edges.times(8, 7));
        x.pack();
        Edges.dueStore(x, Edges.rows(Edges.head(2, 8, 32, 8), Edges.frame(0, "00" + five + "1000" + "00000111")));
        // l, r both 16 from one end of 8 bits to the other in turn: m is -1, s 255 and -255, PLAIN.
        x = two(8, Edges.turns(4, 127, -128), Edges.turns(4, -128, 127));
        x.pack();
        String side = "011111111" + "100000001";
        Edges.dueStore(x, Edges.rows(Edges.head(2, 8, 32, 4),
                Edges.frame(0, "11" + "1000" + "11111111" + "1001" + side + side)));
        // 16 FRAMES, the last number is 15.
        x = Edges.sound(8, 1);
        x.frame(16);
        for (int i = 0; i < 4; i++) {
            x.fill(0, 0, 64, 5, 0);
        }
        Edges.due("16 FRAMES", x.pack(), 21 + 16 * 6);
        for (int number = 0; number < 16; number++) {
            Edges.due("165", x.store(21 + 6 * number), 165);
            Edges.due("number", x.store(22 + 6 * number), number);
        }
    }

    private static void runBits() {
        Edges.says("a PREDICTOR: the first ORDER numbers in their BITS, then RUNS: how many GROUPS less 1 in 3, the PARAMETER in 4, of "
                + "14 W in 5 and each RESIDUAL in W; of 0 to 13 of each RESIDUAL as many 0 as u / 2 to the power of it, a 1, and "
                + "what is left of u in so many bits.");
        WholeSound x = Edges.of(16, 0, 3, 6, 9, 12, 15, 18, 21);
        x.pack();
        Edges.dueStore(x, Edges.rows(Edges.head(1, 16, 32, 8),
                Edges.frame(0, "0010" + "0".repeat(16) + Edges.in(16, 3) + "000" + "1111")));
        // Eight GROUPS of 1 and -1.
        x = Edges.unguessed(8, Edges.turns(64, 1, -1));
        x.frame(64);
        x.pack();
        Edges.dueStore(x, Edges.rows(Edges.head(1, 8, 64, 64),
                Edges.frame(0, "0000" + "111" + "1110" + "00010" + "0111".repeat(32))));
        // Each PARAMETER from 0 to 13, eight numbers each.
        for (int p = 0; p <= 13; p++) {
            x = Edges.unguessed(16, fitFor(p));
            x.pack();
            String low = "1" + "1".repeat(p);
            String middle = "01" + "0".repeat(p);
            Edges.dueStore(x, Edges.rows(Edges.head(1, 16, 32, 8), Edges.frame(0, "0000" + "000" + Edges.in(4, p)
                    + (low + middle).repeat(3) + low + "0001" + "0".repeat(p))));
        }

        // One RUN behind another: zeros, by 14, by 0.
        x = Edges.unguessed(8, Edges.rows(Edges.times(8, 0), Edges.turns(16, 100, -100), fitFor(0), Edges.times(1, 0)));
        x.frame(40);
        x.pack();
        Edges.dueStore(x, Edges.rows(Edges.head(1, 8, 40, 33), Edges.frame(0, "0000" + "0001111" + "001" + "1110" + "01000"
                + (Edges.in(8, 100) + Edges.in(8, -100)).repeat(8) + "001" + "0000" + "101101101" + "1" + "0001" + "1")));
        Edges.due("same()", x.same(), 33);

        Edges.says("(Numbers below 0 modulo 2 to the power of their bits.)");
        x = Edges.of(8, Edges.times(3, -128));
        x.pack();
        Edges.dueStore(x, Edges.rows(Edges.head(1, 8, 32, 3), Edges.frame(0, "1000" + "10000000")));
        // First numbers below 0, by 1, then residuals of -1 in W 1.
        x = Edges.of(8, -100, -101, -102, -103, -104, -105, -106, -107, -108, -109);
        x.allow(2);
        x.pack();
        Edges.dueStore(x, Edges.rows(Edges.head(1, 8, 32, 10),
                Edges.frame(0, "0001" + Edges.in(8, 156) + "001" + "1110" + "00001" + "1".repeat(9))));
        // s of -2, of 9 bits: l is 5, 4 in turn, r 2 more.
        x = two(16, Edges.turns(8, 500, 400), Edges.turns(8, 502, 402));
        Edges.due("join", x.join(0), 1);
        x.pack();
        Edges.dueStore(x, Edges.rows(Edges.head(2, 16, 32, 8), Edges.frame(0, "01" + "0000" + "000" + "1110" + "01010"
                + (Edges.in(10, 500) + Edges.in(10, 400)).repeat(4) + "1000" + "1".repeat(16) + "0")));
    }

    private static void wholeBytes() {
        Edges.says("Then 0 up to a whole byte; CHECK.");
        // So many zeros and a -1 by 0: 4 + 7 + n + 1 bits.
        for (int n = 2; n <= 8; n++) {
            int[] values = Edges.times(n, 0);
            values[n - 1] = -1;
            WholeSound x = Edges.unguessed(8, values);
            int bits = 12 + n;
            Edges.due("bits", x.row(0, 0, 1), bits);
            Edges.due("size()", x.size(), 21 + 2 + (bits + 7) / 8 + 2);
            Edges.due("pack()", x.pack(), 21 + 2 + (bits + 7) / 8 + 2);
            Edges.dueStore(x, Edges.rows(Edges.head(1, 8, 32, n),
                    Edges.frame(0, "0000" + "0000000" + "1".repeat(n - 1) + "01")));
            // Of two CHANNELS, l being STILL: 2 and 12 bits more; s, which has a 1 for the -1, is one bit dearer than r.
            x = two(8, Edges.times(n, 0), values);
            Edges.due("bits of two", x.joined(0, 0), 12 + bits);
            Edges.due("size() of two", x.size(), 21 + 2 + (14 + bits + 7) / 8 + 2);
            Edges.due("pack() of two", x.pack(), 21 + 2 + (14 + bits + 7) / 8 + 2);
        }
    }

    private static void check() {
        Edges.says("CHECK, 2 bytes, the higher first, of all bytes of the HEAD, the FRAME ahead of it: c is 65535; of each byte, c is "
                + "c xor 256 times it, then 8 times: c is 2 * c, if it was 32768 or more xor 4129, all modulo 65536.");
        int[] known = "123456789".chars().toArray();
        Edges.due("the tests' own CHECK, by a value that is known", Edges.check(known, 0, 9), 0x29b1);
        WholeSound x = Edges.sound(8, 1);
        x.pack();
        // 53 50 01 08 20 and fourteen 00.
        Edges.due("HEAD, the higher", x.store(19), HEAD_CHECK >> 8);
        Edges.due("HEAD, the lower", x.store(20), HEAD_CHECK & 255);
        x.fill(0, 0, 1, 5, 0);
        x.pack();
        // a5 00 80 50.
        Edges.due("FRAME, the higher", x.store(25), FRAME_CHECK >> 8);
        Edges.due("FRAME, the lower", x.store(26), FRAME_CHECK & 255);
        x.clear();
        x.channel(8);
        x.frame(16);
        x.fill(0, 0, 32, 5, 0);
        x.pack();
        // The second FRAME has its own: a5 01 80 50.
        Edges.due("second FRAME, the higher", x.store(31), SECOND_CHECK >> 8);
        Edges.due("second FRAME, the lower", x.store(32), SECOND_CHECK & 255);
    }

    private static void store() {
        Edges.says("STORE: bytes, none at first, 4,000 at most.");
        WholeSound x = new WholeSound();
        Edges.due("none at first", x.count(8), 0);
        Edges.due("none at first", x.store(0), NONE);
        // The most bytes that a sound can be packed into: noise of two CHANNELS of 256, FRAMES of 16, all PLAIN.
        x = Edges.sound(16, 2);
        x.frame(16);
        x.allow(0);
        for (int i = 0; i < 8; i++) {
            x.fill(i / 4, 2, 64, i < 4 ? 32767 : -32768, i < 4 ? 1 : 2);
        }
        Edges.due("the most", x.pack(), 21 + 16 * (2 + 66 + 2));
        Edges.due("bytes in the STORE", x.count(8), 1141);
        Edges.due("same()", x.same(), 512);
        Edges.due("the last", x.store(1140) == NONE ? 1 : 0, 0);
        Edges.due("none behind it", x.store(1141), NONE);
        Edges.due("none at 3999", x.store(3999), NONE);
        Edges.due("none at 4000", x.store(4000), NONE);
    }

    // ---- promises 12 to 23 and 36 ----

    /** 20 SAMPLES each in FRAMES of 16: 0 and 1 are FRAMES, 2 is none. */
    private static final int[] NO_FRAMES = {-1, 2, LOWEST, HIGHEST, 1 << 28, 1 << 27};

    private static void noFrames(String what, Supplier<WholeSound> made, FrameCall call) {
        for (int frame : NO_FRAMES) {
            Edges.refuses(what + " of FRAME " + frame, made, x -> call.of(x, frame));
        }
        Edges.refuses(what + " of no CHANNEL", Edges::mute, x -> call.of(x, 0));
        Edges.refuses(what + " of what is not READY", Edges::uneven, x -> call.of(x, 0));
        Edges.refuses(what + " of no SAMPLES", () -> Edges.sound(8, 1), x -> call.of(x, 0));
    }

    /** A call that is asked of a FRAME. */
    private interface FrameCall {
        int of(WholeSound x, int frame);
    }

    private static void join() {
        Edges.in("Promise 12");
        Edges.says("JOIN of a FRAME; NONE: none such.");
        Edges.asks("the first", EdgesOfPacking::twoFrames, x -> x.join(0), 1);
        Edges.asks("the last", EdgesOfPacking::twoFrames, x -> x.join(1), 0);
        noFrames("join", EdgesOfPacking::twoFrames, WholeSound::join);
    }

    /** FRAME 0: 16 of 20 and 20, 24 in turn, joined by 1; FRAME 1: four of 5 and 7, joined by 0. A TAPE, a STORE. */
    private static WholeSound twoFrames() {
        WholeSound x = Edges.sound(8, 2);
        x.frame(16);
        x.allow(0);
        x.fill(0, 0, 16, 20, 0);
        x.fill(0, 0, 4, 5, 0);
        Edges.put(x, 1, Edges.turns(16, 20, 24));
        x.fill(1, 0, 4, 7, 0);
        x.pack();
        x.feed(1, 2, 3);
        return x;
    }

    private static void joined() {
        Edges.in("Promise 13");
        Edges.says("Bits of the ROWS of a FRAME by a JOIN; NONE: others, none such (of one CHANNEL: but 0).");
        // l: 12. r, m by 14: 4 + 12 + 16 * 6, s: 4 + 12 + 16 * 3.
        int[] first = {12 + 112, 12 + 64, 64 + 112, 112 + 64};
        int[] second = {24, 25, 25, 25};
        for (int join = 0; join <= 3; join++) {
            int each = join;
            Edges.asks("FRAME 0 by " + join, EdgesOfPacking::twoFrames, x -> x.joined(0, each), first[join]);
            Edges.asks("FRAME 1 by " + join, EdgesOfPacking::twoFrames, x -> x.joined(1, each), second[join]);
            noFrames("joined by " + join, EdgesOfPacking::twoFrames, (x, frame) -> x.joined(frame, each));
        }
        for (int join : new int[] {-1, 4, LOWEST, HIGHEST}) {
            Edges.refuses("by " + join, EdgesOfPacking::twoFrames, x -> x.joined(0, join));
        }
        Edges.asks("one CHANNEL", () -> Edges.of(8, 1, 1), x -> x.joined(0, 0), 12);
        for (int join : new int[] {1, 2, 3, -1, 4}) {
            Edges.refuses("one CHANNEL by " + join, () -> Edges.of(8, 1, 1), x -> x.joined(0, join));
        }
    }

    private static void row() {
        Edges.in("Promise 14");
        Edges.says("Of a ROW (0, 1) of a FRAME, by its JOIN, what 0: HOW, 1: its bits, 2: RUNS (0: STILL, PLAIN); NONE: others, none "
                + "such.");
        int[][][] want = {{{8, 12, 0}, {0, 64, 1}}, {{8, 12, 0}, {8, 12, 0}}};
        for (int frame = 0; frame < 2; frame++) {
            for (int row = 0; row < 2; row++) {
                for (int what = 0; what < 3; what++) {
                    int f = frame;
                    int r = row;
                    int w = what;
                    Edges.asks("row(" + f + ", " + r + ", " + w + ")", EdgesOfPacking::twoFrames, x -> x.row(f, r, w), want[f][r][w]);
                }
            }
        }
        for (int row : new int[] {-1, 2, LOWEST, HIGHEST}) {
            Edges.refuses("ROW " + row, EdgesOfPacking::twoFrames, x -> x.row(0, row, 0));
        }
        for (int what : new int[] {-1, 3, LOWEST, HIGHEST}) {
            Edges.refuses("what " + what, EdgesOfPacking::twoFrames, x -> x.row(0, 0, what));
        }
        Edges.refuses("ROW 1 of one CHANNEL", () -> Edges.of(8, 1, 2), x -> x.row(0, 1, 0));
        noFrames("row", EdgesOfPacking::twoFrames, (x, frame) -> x.row(frame, 0, 1));
        WholeSound plain = Edges.unguessed(8, 127, -128);
        Edges.due("PLAIN", plain.row(0, 0, 0), 9);
        Edges.due("PLAIN, bits", plain.row(0, 0, 1), 20);
        Edges.due("PLAIN, RUNS", plain.row(0, 0, 2), 0);
    }

    private static void run() {
        Edges.in("Promise 15");
        Edges.says("Of the i-th RUN (from 0) of a ROW, what 0: GROUPS, 1: PARAMETER, 2: its bits; NONE: others, none such.");
        // 8 zeros, 16 of 100 and -100, 8 zeros.
        Supplier<WholeSound> three = () -> Edges.unguessed(8, Edges.rows(Edges.times(8, 0), Edges.turns(16, 100, -100),
                Edges.times(8, 0)));
        int[][] want = {{1, 15, 7}, {2, 14, 12 + 128}, {1, 15, 7}};
        for (int i = 0; i < 3; i++) {
            for (int what = 0; what < 3; what++) {
                int each = i;
                int w = what;
                Edges.asks("RUN " + i + ", what " + what, three, x -> x.run(0, 0, each, w), want[i][what]);
            }
        }
        for (int i : new int[] {-1, 3, 8, LOWEST, HIGHEST}) {
            Edges.refuses("RUN " + i, three, x -> x.run(0, 0, i, 0));
        }
        for (int what : new int[] {-1, 3, LOWEST, HIGHEST}) {
            Edges.refuses("what " + what, three, x -> x.run(0, 0, 0, what));
        }
        for (int row : new int[] {-1, 1, 2, LOWEST, HIGHEST}) {
            Edges.refuses("ROW " + row, three, x -> x.run(0, row, 0, 0));
        }
        Edges.asks("ROW 1 of two", EdgesOfPacking::twoFrames, x -> x.run(0, 1, 0, 1), 14);
        Edges.refuses("of STILL", EdgesOfPacking::twoFrames, x -> x.run(0, 0, 0, 0));
        Edges.refuses("of PLAIN", () -> Edges.unguessed(8, 127, -128), x -> x.run(0, 0, 0, 0));
        noFrames("run", EdgesOfPacking::twoFrames, (x, frame) -> x.run(frame, 1, 0, 0));
    }

    private static void residual() {
        Edges.in("Promise 16");
        Edges.says("The i-th number of a ROW of a FRAME (by its JOIN) less what a PREDICTOR GUESSES (of the first ORDER ones: the "
                + "number);");
        // s: 0, -4 in turn.
        int[] byTwo = {0, -4, 8, -8, 8};
        for (int i = 0; i < byTwo.length; i++) {
            int each = i;
            Edges.asks("s by 2, " + i, EdgesOfPacking::twoFrames, x -> x.residual(0, 1, 2, each), byTwo[i]);
        }
        Edges.asks("s by 4, the last first one", EdgesOfPacking::twoFrames, x -> x.residual(0, 1, 4, 3), -4);
        Edges.asks("s by 4, the first guess: 4 * -4 + 4 * -4", EdgesOfPacking::twoFrames, x -> x.residual(0, 1, 4, 4), 32);
        Edges.asks("the last of 16", EdgesOfPacking::twoFrames, x -> x.residual(0, 1, 0, 15), -4);
        Edges.asks("r, the last of 4", EdgesOfPacking::twoFrames, x -> x.residual(1, 1, 3, 3), 0);
        // Numbers of the FRAME alone are ahead: the first of FRAME 1 has none.
        Edges.asks("the first of FRAME 1", EdgesOfPacking::twoFrames, x -> x.residual(1, 0, 1, 0), 5);

        Edges.says("IndexOutOfBoundsException: others, none such, an ORDER of its numbers or more.");
        Class<?> thrown = IndexOutOfBoundsException.class;
        for (int i : new int[] {-1, 16, LOWEST, HIGHEST}) {
            Edges.throwing("number " + i, EdgesOfPacking::twoFrames, x -> x.residual(0, 0, 0, i), thrown);
        }
        Edges.throwing("number 4 of 4", EdgesOfPacking::twoFrames, x -> x.residual(1, 0, 0, 4), thrown);
        for (int predictor : new int[] {-1, 8, LOWEST, HIGHEST}) {
            Edges.throwing("PREDICTOR " + predictor, EdgesOfPacking::twoFrames, x -> x.residual(0, 0, predictor, 0), thrown);
        }
        for (int row : new int[] {-1, 2, LOWEST, HIGHEST}) {
            Edges.throwing("ROW " + row, EdgesOfPacking::twoFrames, x -> x.residual(0, row, 0, 0), thrown);
        }
        for (int frame : NO_FRAMES) {
            Edges.throwing("FRAME " + frame, EdgesOfPacking::twoFrames, x -> x.residual(frame, 0, 0, 0), thrown);
        }
        Edges.throwing("ROW 1 of one", () -> Edges.of(8, 1, 2), x -> x.residual(0, 1, 0, 0), thrown);
        Edges.throwing("no CHANNEL", Edges::mute, x -> x.residual(0, 0, 0, 0), thrown);
        Edges.throwing("not READY", Edges::uneven, x -> x.residual(0, 0, 0, 0), thrown);
        Edges.throwing("no SAMPLES", () -> Edges.sound(8, 1), x -> x.residual(0, 0, 0, 0), thrown);
        // FRAME 1 has four numbers: ORDER 3 may be, ORDER 4 not.
        Edges.asks("ORDER 3 of 4", EdgesOfPacking::twoFrames, x -> x.residual(1, 0, 3, 0), 5);
        Edges.throwing("ORDER 4 of 4", EdgesOfPacking::twoFrames, x -> x.residual(1, 0, 4, 0), thrown);
        for (int order = 1; order <= 3; order++) {
            int predictor = 4 + order;
            int each = order;
            Edges.throwing("a told ORDER " + order, () -> silent(each), x -> x.residual(0, 0, predictor, 0), thrown);
            Edges.asks("a told ORDER " + order + " of more", () -> silent(each + 1), x -> x.residual(0, 0, predictor, 0), 0);
        }
    }

    /** What is asked of a FRAME, a ROW and a PREDICTOR alike. */
    private static void sameRefusals(String what, RowCall call) {
        for (int predictor : new int[] {-1, 8, LOWEST, HIGHEST}) {
            Edges.refuses(what + " by " + predictor, EdgesOfPacking::twoFrames, x -> call.of(x, 0, 0, predictor));
        }
        for (int row : new int[] {-1, 2, LOWEST, HIGHEST}) {
            Edges.refuses(what + " of ROW " + row, EdgesOfPacking::twoFrames, x -> call.of(x, 0, row, 0));
        }
        Edges.refuses(what + " of ROW 1 of one", () -> Edges.of(8, 1, 2), x -> call.of(x, 0, 1, 0));
        noFrames(what, EdgesOfPacking::twoFrames, (x, frame) -> call.of(x, frame, 0, 0));
        Edges.refuses(what + " by ORDER 4 of 4", EdgesOfPacking::twoFrames, x -> call.of(x, 1, 0, 4));
        for (int order = 1; order <= 3; order++) {
            int predictor = 4 + order;
            int each = order;
            Edges.refuses(what + " by a told ORDER of all", () -> silent(each), x -> call.of(x, 0, 0, predictor));
        }
    }

    /** A call that is asked of a ROW by a PREDICTOR. */
    private interface RowCall {
        int of(WholeSound x, int frame, int row, int predictor);
    }

    private static void tried() {
        Edges.in("Promise 17");
        Edges.says("Bits of a ROW of a FRAME (by its JOIN) by a PREDICTOR, ALLOWED or not; NONE: others, none such, an ORDER of its "
                + "numbers or more.");
        Edges.asks("s by 0", EdgesOfPacking::twoFrames, x -> x.tried(0, 1, 0), 64);
        // By 1, not ALLOWED: 15 of -4 and 4 in turn, u 7 and 8, by 2: 8 of 1 + 1 + 2 and 7 of 2 + 1 + 2, by 3: 8 of 4, 7 of 5;
        // 14: W 4. 9 bits for the first.
        Edges.asks("s by 1", EdgesOfPacking::twoFrames, x -> x.tried(0, 1, 1), 4 + 9 + Math.min(12 + 60, 7 + 32 + 35));
        Edges.asks("STILL by 1", EdgesOfPacking::twoFrames, x -> x.tried(0, 0, 1), 4 + 8 + 7);
        Edges.asks("ORDER 3 of 4", EdgesOfPacking::twoFrames, x -> x.tried(1, 1, 3), 4 + 24 + 7);
        WholeSound x = twoFrames();
        x.effort(0);
        // The mean of s is 2: PARAMETER 2.
        Edges.due("s by 0 with EFFORT 0", x.tried(0, 1, 0), 4 + 7 + 8 * 3 + 8 * 4);
        sameRefusals("tried", WholeSound::tried);
    }

    private static void mean() {
        Edges.in("Promise 18");
        Edges.says("The bits (of the float) of the MEAN, likewise; NONE likewise.");
        Edges.asks("s by 0", EdgesOfPacking::twoFrames, x -> x.mean(0, 1, 0), Float.floatToIntBits(2f));
        Edges.asks("s by 1", EdgesOfPacking::twoFrames, x -> x.mean(0, 1, 1), Float.floatToIntBits(4f));
        Edges.asks("STILL by 1", EdgesOfPacking::twoFrames, x -> x.mean(0, 0, 1), 0);
        Edges.asks("ORDER 3 of 4", EdgesOfPacking::twoFrames, x -> x.mean(1, 1, 3), 0);
        int[][] rows = {{0, 0, -1}, {127, -128, 127}, {5, 0, 0, 0, 0, 0, 0}, Edges.turns(33, 3, -4), Edges.turns(63, -128, 127),
            Edges.rows(Edges.times(63, 0), Edges.times(1, 1)), Edges.rows(Edges.times(63, 127), Edges.times(1, -128))};
        for (int[] each : rows) {
            int sum = 0;
            for (int value : each) {
                sum += Math.abs(value);
            }
            WholeSound x = Edges.unguessed(8, each);
            x.frame(64);
            Edges.due(sum + " of " + each.length, x.mean(0, 0, 0), Float.floatToIntBits((float) sum / each.length));
        }
        WholeSound far = Edges.of(16, Edges.times(11, 32767));
        far.predictor(7, -31, -31, -31, 0);
        Edges.due("far", far.mean(0, 0, 7), Float.floatToIntBits(94f * 32767f));
        sameRefusals("mean", WholeSound::mean);
    }

    private static void size() {
        Edges.in("Promise 19");
        Edges.says("How many bytes the PACKED sound has; NONE: it is not READY.");
        // FRAME 0: 2 + 12 + 64 bits, 10 bytes; FRAME 1: 2 + 12 + 12 bits, 4 bytes.
        Edges.asks("two FRAMES", EdgesOfPacking::twoFrames, WholeSound::size, 21 + 14 + 8);
        Edges.asks("no SAMPLES", () -> Edges.sound(8, 1), WholeSound::size, 21);
        Edges.asks("no SAMPLES of two", () -> Edges.sound(8, 2), WholeSound::size, 21);
        refusedUnready("size", WholeSound::size);
    }

    private static void refusedUnready(String what, ToIntFunction<WholeSound> call) {
        Edges.refuses(what + " of a new object", WholeSound::new, call);
        Edges.refuses(what + " of no CHANNEL", Edges::mute, call);
        Edges.refuses(what + " of what is not READY", Edges::uneven, call);
    }

    /** 16 ones, 32 twos. */
    private static WholeSound stairs() {
        return Edges.of(8, Edges.rows(Edges.times(16, 1), Edges.times(32, 2)));
    }

    private static void sized() {
        Edges.in("Promise 20");
        Edges.says("The same, were FRAME n; NONE: others, it is not READY.");
        // By 16 three STILL. By 32, 48 and more: by 1: 4 + 8 + 7 + 17 + 7 bits (the 16th number behind the first is 1).
        Edges.asks("16", EdgesOfPacking::stairs, x -> x.sized(16), 21 + 3 * 6);
        Edges.asks("32", EdgesOfPacking::stairs, x -> x.sized(32), 21 + 10 + 6);
        Edges.asks("48", EdgesOfPacking::stairs, x -> x.sized(48), 21 + 10);
        Edges.asks("56", EdgesOfPacking::stairs, x -> x.sized(56), 21 + 10);
        Edges.asks("64", EdgesOfPacking::stairs, x -> x.sized(64), 21 + 10);
        for (int n : new int[] {0, 8, 15, 17, 63, 65, 72, -16, -32, LOWEST, HIGHEST, LOWEST + 32}) {
            Edges.refuses("FRAME " + n, EdgesOfPacking::stairs, x -> x.sized(n));
        }
        for (int n = 16; n <= 64; n += 8) {
            int each = n;
            Edges.asks(n + " of no SAMPLES", () -> Edges.sound(8, 1), x -> x.sized(each), 21);
            refusedUnready("sized(" + n + ")", x -> x.sized(each));
        }
    }

    private static void without() {
        Edges.in("Promise 21");
        Edges.says("The same, were a PREDICTOR (1 to 7) not ALLOWED; NONE: others, it is not READY.");
        Supplier<WholeSound> rising = () -> Edges.of(16, 0, 3, 6, 9, 12, 15, 18, 21, 24, 27, 30, 33, 36, 39, 42, 45);
        // By 2 43 bits, by 3 59; without 2 it is 3: 8 bytes.
        for (int which = 1; which <= 7; which++) {
            int each = which;
            Edges.asks("without " + which, rising, x -> x.without(each), which == 2 ? 33 : 31);
            refusedUnready("without(" + which + ")", x -> x.without(each));
        }
        for (int which : new int[] {0, 8, -1, 32, 33, 34, LOWEST, HIGHEST}) {
            Edges.refuses("without " + which, rising, x -> x.without(which));
        }
        Edges.asks("without what is not ALLOWED", EdgesOfPacking::twoFrames, x -> x.without(1), 43);
        WholeSound x = ramp(128);
        Edges.due("without 7", x.without(7), ramp(0).size());
        Edges.due("7 is ALLOWED still", x.size(), 31);
    }

    private static void best() {
        Edges.in("Promise 22");
        Edges.says("The FRAME of the least size, of equal ones the lowest; NONE: it is not READY.");
        Edges.asks("48 of 48, 56, 64", EdgesOfPacking::stairs, WholeSound::best, 48);
        Edges.asks("no SAMPLES", () -> Edges.sound(8, 1), WholeSound::best, 16);
        Edges.asks("one SAMPLE", () -> Edges.of(8, 3), WholeSound::best, 16);
        Edges.asks("16", () -> Edges.of(8, Edges.times(16, 3)), WholeSound::best, 16);
        Edges.asks("17", () -> Edges.of(8, Edges.times(17, 3)), WholeSound::best, 24);
        Edges.asks("56", () -> Edges.of(8, Edges.times(56, 3)), WholeSound::best, 56);
        Edges.asks("57", () -> Edges.of(8, Edges.times(57, 3)), WholeSound::best, 64);
        Edges.asks("64", () -> Edges.of(8, Edges.times(64, 3)), WholeSound::best, 64);
        // By FRAMES of 8 it would be less: two STILL ones.
        Edges.asks("none of 8", () -> Edges.of(16, Edges.rows(Edges.times(8, 30000), Edges.times(8, -30000))), WholeSound::best, 16);
        refusedUnready("best", WholeSound::best);
    }

    private static void pack() {
        Edges.in("Promise 23");
        Edges.says("The sound is PACKED, the STORE is that: how many bytes; NONE: it is not READY.");
        WholeSound x = Edges.of(8, 5);
        int[] want = Edges.rows(Edges.head(1, 8, 32, 1), Edges.frame(0, "1000" + "00000101"));
        Edges.due("pack()", x.pack(), want.length);
        Edges.dueStore(x, want);
        // Over a longer one that was cut and spoilt.
        x = Edges.busy();
        x.spoil(0, 1);
        x.drop(3);
        x.clear();
        x.channel(8);
        x.fill(0, 0, 1, 5, 0);
        Edges.due("pack() anew", x.pack(), want.length);
        Edges.dueStore(x, want);
        Edges.due("pack() again", x.pack(), want.length);
        Edges.dueStore(x, want);
        x.clear();
        Edges.due("no CHANNEL", x.pack(), NONE);
        Edges.dueStore(x, want);
        refusedUnready("pack", WholeSound::pack);
        Edges.asks("the sound stays", EdgesOfPacking::twoFrames, WholeSound::pack, 43);
        Edges.due("two of 256", fullSound().pack(), fullSound().size());
    }

    private static WholeSound fullSound() {
        WholeSound x = Edges.sound(16, 2);
        for (int i = 0; i < 8; i++) {
            x.fill(i % 2, 3, 64, 32767, 0);
        }
        return x;
    }

    private static void ratio() {
        Edges.in("Promise 36");
        Edges.says("The bits of the float: size() divided by the bytes of all SAMPLES; NONE: it is not READY, there are none.");
        Edges.asks("one byte", () -> Edges.of(8, 5), WholeSound::ratio, Float.floatToIntBits(27f));
        Edges.asks("two bytes", () -> Edges.of(16, 5), WholeSound::ratio, Float.floatToIntBits(28f / 2f));
        Edges.asks("two CHANNELS", EdgesOfPacking::twoFrames, WholeSound::ratio, Float.floatToIntBits(43f / 40f));
        Edges.asks("three bytes", () -> Edges.of(8, 5, 5, 5), WholeSound::ratio, Float.floatToIntBits(27f / 3f));
        Edges.asks("seven bytes", () -> Edges.of(8, Edges.times(7, 5)), WholeSound::ratio, Float.floatToIntBits(27f / 7f));
        WholeSound most = fullSound();
        Edges.due("1024 bytes", most.ratio(), Float.floatToIntBits(most.size() / 1024f));
        WholeSound still = Edges.sound(16, 2);
        still.frame(64);
        for (int i = 0; i < 8; i++) {
            still.fill(i % 2, 0, 64, 1, 0);
        }
        Edges.due("below a half", still.ratio(), Float.floatToIntBits((21 + 4 * (4 + 6)) / 1024f));
        Edges.refuses("no SAMPLES", () -> Edges.sound(8, 1), WholeSound::ratio);
        Edges.refuses("no SAMPLES of two", () -> Edges.sound(16, 2), WholeSound::ratio);
        refusedUnready("ratio", WholeSound::ratio);
    }
}

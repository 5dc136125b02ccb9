import java.lang.reflect.InvocationTargetException;
import java.lang.reflect.Method;
import java.util.Arrays;
import java.util.HashMap;
import java.util.Map;
import java.util.Random;

/** Many runs of drawn calls, answered by the program and by the model: both must say the same. */
public final class ModelTest {
    private static final int MOST_CALLS = 512;
    private static final Map<String, Method> OURS = new HashMap<>();
    private static final Map<String, Method> THEIRS = new HashMap<>();
    private static final String[] TELLING = {
        "feed", "channel", "samples", "fill", "frame", "predictor", "effort", "allow", "clear"};
    private static final String[] ASKING = {
        "sample", "join", "joined", "row", "run", "residual", "tried", "mean", "size", "sized", "without",
        "ratio", "loud", "count"};
    private static final String[] SPOILING = {"spoil", "drop", "take"};
    private static final String[] READING = {
        "store", "head", "good", "seek", "holds", "near", "at", "heard", "same", "count"};

    private static int wrong = 0;
    private static long compared = 0;

    private final Random random;
    private final WholeSound program = new WholeSound();
    private final Model model = new Model();
    private final StringBuilder told = new StringBuilder();
    private int calls = 0;
    private boolean apart = false;

    private ModelTest(long seed) {
        random = new Random(seed);
    }

    public static void main(String[] args) {
        long runs = args.length > 0 ? Long.parseLong(args[0]) : 1;
        for (Method method : WholeSound.class.getMethods()) {
            if (method.getDeclaringClass() == WholeSound.class) {
                OURS.put(method.getName(), method);
            }
        }
        for (Method method : Model.class.getMethods()) {
            THEIRS.put(method.getName(), method);
        }
        for (long seed = 0; seed < 150 * runs; seed++) {
            new ModelTest(seed).talk();
            new ModelTest(seed).packs();
            new ModelTest(seed).cuts();
            new ModelTest(seed).spoils();
            new ModelTest(seed).forges();
            new ModelTest(seed + 1000000).forges();
            new ModelTest(seed + 2000000).forges();
            new ModelTest(seed + 3000000).forges();
            if (wrong > 5) {
                break;
            }
        }
        System.out.println("ModelTest: " + compared + " answers compared, " + wrong + " wrong");
        if (wrong != 0 || compared < 10000) {
            System.exit(1);
        }
    }

    // ---- calls ----

    private static Object answer(Object on, Method method, Object[] args) {
        try {
            return method.invoke(on, args);
        } catch (InvocationTargetException thrown) {
            return "throws " + thrown.getCause().getClass().getName();
        } catch (IllegalAccessException e) {
            throw new IllegalStateException(e);
        }
    }

    /** Calls both; the answer that is due, NONE for a throw. */
    private int call(String name, Object... args) {
        if (calls >= MOST_CALLS || apart) {
            return -1;
        }
        calls++;
        compared++;
        Object got = answer(program, OURS.get(name), args);
        Object due = answer(model, THEIRS.get(name), args);
        told.append(name).append(Arrays.toString(args)).append(" -> ").append(due).append('\n');
        if (!got.equals(due)) {
            wrong++;
            apart = true;
            System.out.println(told + "  but the program answered " + got + "\n");
        }
        return due instanceof Integer ? (Integer) due : -1;
    }

    private int draw(int from, int to) {
        return from + random.nextInt(to - from + 1);
    }

    private boolean chance(int of) {
        return random.nextInt(of) == 0;
    }

    private int wild() {
        int[] edges = {Integer.MIN_VALUE, Integer.MIN_VALUE + 1, -65537, -65536, -32769, -32, -31, -2, -1, 0, 1, 2, 3, 4,
            5, 7, 8, 9, 10, 11, 15, 16, 24, 31, 32, 63, 64, 65, 72, 128, 240, 255, 256, 257, 32767, 32768, 65536, 65537,
            1 << 28, 1 << 29, 1 << 30, Integer.MAX_VALUE - 1, Integer.MAX_VALUE};
        return chance(4) ? random.nextInt() : edges[random.nextInt(edges.length)];
    }

    private void callDrawn(String[] names) {
        String name = names[random.nextInt(names.length)];
        Class<?>[] types = OURS.get(name).getParameterTypes();
        Object[] args = new Object[types.length];
        int[] sensible = sensible(name);
        for (int i = 0; i < args.length; i++) {
            if (types[i] == long.class) {
                args[i] = chance(2) ? random.nextLong() : (long) wild();
            } else {
                args[i] = chance(25) ? wild() : sensible[i];
            }
        }
        call(name, args);
    }

    private int drawFrame() {
        return chance(2) ? draw(0, 3) : draw(0, 16);
    }

    private int[] sensible(String name) {
        switch (name) {
            case "channel": return new int[] {chance(2) ? 8 : 16};
            case "samples": return new int[] {draw(0, 1), draw(0, 30)};
            case "fill": return drawnFill();
            case "frame": return new int[] {8 * draw(2, 8)};
            case "predictor":
                return new int[] {draw(5, 7), drawWeight(), drawWeight(), drawWeight(), draw(0, 4)};
            case "effort": return new int[] {draw(0, 1)};
            case "allow": return new int[] {draw(0, 255)};
            case "sample": return new int[] {draw(0, 1), draw(0, 256)};
            case "join": return new int[] {drawFrame()};
            case "joined": return new int[] {drawFrame(), draw(0, 3)};
            case "row": return new int[] {drawFrame(), draw(0, 1), draw(0, 2)};
            case "run": return new int[] {drawFrame(), draw(0, 1), draw(0, 3), draw(0, 2)};
            case "residual": return new int[] {drawFrame(), draw(0, 1), draw(0, 7), draw(0, 63)};
            case "tried":
            case "mean": return new int[] {drawFrame(), draw(0, 1), draw(0, 7)};
            case "sized": return new int[] {8 * draw(2, 8)};
            case "without": return new int[] {draw(1, 7)};
            case "loud": return new int[] {draw(0, 1), draw(0, 1)};
            case "count": return new int[] {draw(0, 10)};
            case "store":
            case "near":
            case "at":
            case "take": return new int[] {drawPlace()};
            case "spoil": return new int[] {drawPlace(), chance(2) ? 1 << draw(0, 7) : draw(1, 255)};
            case "drop": return new int[] {chance(4) ? draw(0, 100) : draw(0, 3)};
            case "seek": return new int[] {drawFrame(), draw(0, 1)};
            case "holds": return new int[] {draw(0, 256)};
            case "heard": return new int[] {draw(0, 1), draw(0, 256)};
            default: return new int[0];
        }
    }

    private int drawPlace() {
        int used = model.count(8);
        if (used > 0 && chance(3)) {
            // Where a frame may begin.
            int from = random.nextInt(used);
            for (int place = from; place < used; place++) {
                if (model.store(place) == 165) {
                    return place;
                }
            }
        }
        return chance(6) ? draw(0, 21) : draw(0, Math.max(0, used));
    }

    private int drawWeight() {
        return chance(3) ? 0 : chance(2) ? draw(-3, 3) : draw(-31, 31);
    }

    private int[] drawnFill() {
        int channel = draw(0, 1);
        int many = chance(3) ? 64 : draw(1, 64);
        int[] reaches = {2, 9, 40, 130, 1000, 33000, 65536};
        int reach = reaches[random.nextInt(reaches.length)];
        int x = draw(-reach, reach);
        switch (draw(0, 5)) {
            case 0: return new int[] {channel, 0, many, x, draw(-5, 5)};
            case 1: return new int[] {channel, 1, many, x, draw(-reach / 4 - 1, reach / 4 + 1)};
            case 2: return new int[] {channel, 2, many, x, draw(1, chance(2) ? 8 : 64)};
            case 3: return new int[] {channel, 4, many, chance(2) ? draw(-3, 3) : x, chance(3) ? draw(0, 255) : draw(0, 3)};
            default:
                return new int[] {channel, 3, many, Math.min(32767, Math.abs(x)), chance(2) ? 0 : draw(-65536, 65536)};
        }
    }

    // ---- kinds of run ----

    private void talk() {
        for (int i = 0; i < 120; i++) {
            callDrawn(chance(2) ? TELLING : chance(3) ? READING : ASKING);
            if (chance(12)) {
                call("pack");
            }
            if (chance(8)) {
                callDrawn(SPOILING);
            }
        }
    }

    private void tellSound() {
        int width = chance(2) ? 8 : 16;
        int channels = chance(3) ? 1 : 2;
        for (int channel = 0; channel < channels; channel++) {
            call("channel", width);
        }
        int parts = draw(1, 6);
        for (int part = 0; part < parts; part++) {
            int[] fill = drawnFill();
            for (int channel = 0; channel < channels; channel++) {
                int[] own = chance(2) ? drawnFill() : fill;
                call("fill", channel, own[1], fill[2], own[3], own[4]);
            }
        }
        // Both as long as each other, whatever was refused.
        if (channels == 2) {
            int behind = model.count(5) < model.count(6) ? 0 : 1;
            for (int i = 0; i < 5 && model.count(5) != model.count(6); i++) {
                int less = Math.min(64, Math.abs(model.count(5) - model.count(6)));
                call("fill", behind, 4, less, draw(-2, 2), 0);
            }
        }
        tellWays();
    }

    private void tellWays() {
        call("frame", 8 * draw(2, 8));
        for (int which = 5; which <= 7; which++) {
            if (chance(2)) {
                call("predictor", which, drawWeight(), drawWeight(), drawWeight(), draw(0, 4));
            }
        }
        if (chance(2)) {
            call("effort", draw(0, 1));
        }
        if (chance(3)) {
            call("allow", draw(0, 255));
        }
    }

    private void packs() {
        tellSound();
        int frames = model.count(7);
        int frame = frames > 0 ? draw(0, frames - 1) : 0;
        call("join", frame);
        for (int join = 0; join < 4; join++) {
            call("joined", frame, join);
        }
        for (int row = 0; row < 2; row++) {
            int runs = call("row", frame, row, 2);
            call("row", frame, row, 0);
            call("row", frame, row, 1);
            for (int run = 0; run <= runs; run++) {
                for (int what = 0; what < 3; what++) {
                    call("run", frame, row, run, what);
                }
            }
            for (int which = 0; which < 8; which++) {
                call("tried", frame, row, which);
                call("mean", frame, row, which);
                call("residual", frame, row, which, draw(0, 63));
                call("residual", frame, row, which, draw(0, 4));
            }
        }
        call("size");
        call("sized", 8 * draw(2, 8));
        call("without", draw(1, 7));
        call("ratio");
        call("loud", 0, 0);
        call("loud", 0, 1);
        if (chance(4)) {
            call("best");
        }
        int bytes = call("pack");
        for (int i = 0; i < bytes; i++) {
            call("store", i);
        }
        call("good");
        call("same");
    }

    /** Groups of few kinds, each its own residuals: many cuts have as many bits as others. */
    private void cuts() {
        int[] sizes = {0, -1, 1, 2, 3, 5, 10, 20, 60};
        call("channel", 8);
        call("allow", 0);
        call("frame", 64);
        int groups = draw(3, 24);
        for (int group = 0; group < groups; group++) {
            int small = chance(2) ? 0 : draw(0, 8);
            if (small > 0) {
                call("fill", 0, 0, small, 0, 0);
            }
            if (small < 8) {
                call("fill", 0, 0, 8 - small, sizes[random.nextInt(sizes.length)], 0);
            }
        }
        for (int frame = 0; frame < 3; frame++) {
            call("row", frame, 0, 1);
            int runs = call("row", frame, 0, 2);
            for (int run = 0; run < runs; run++) {
                for (int what = 0; what < 3; what++) {
                    call("run", frame, 0, run, what);
                }
            }
        }
        call("pack");
        call("same");
    }

    private void spoils() {
        tellSound();
        call("pack");
        for (int i = 0; i < 12; i++) {
            callDrawn(SPOILING);
            if (chance(2)) {
                mendHead();
            }
            call("head");
            call("good");
            call("same");
            for (int k = 0; k < 4; k++) {
                callDrawn(READING);
            }
            if (chance(6)) {
                call("clear");
                tellSound();
            }
            if (chance(6)) {
                call("pack");
            }
        }
    }

    // ---- bytes that no packing writes, with the right check ----

    private void write(int place, int value) {
        int now = model.store(place);
        if (now >= 0 && now != value) {
            call("spoil", place, now ^ value);
        }
    }

    private void mendHead() {
        if (model.count(8) >= 21) {
            int check = model.checkOf(0, 19);
            write(19, check / 256);
            write(20, check % 256);
        }
    }

    private void forges() {
        // Noise is packed plain: room for other bytes.
        int width = chance(2) ? 8 : 16;
        int channels = draw(1, 2);
        int many = chance(3) ? draw(1, 64) : 64;
        for (int channel = 0; channel < channels; channel++) {
            call("channel", width);
            call("fill", channel, 3, many, width == 8 ? 127 : 32767, draw(1, 1000));
        }
        call("frame", 8 * draw(2, 8));
        call("pack");
        if (chance(2)) {
            int place = draw(2, 18);
            write(place, chance(2) ? draw(0, 255) : Math.max(0, model.store(place)) ^ 1 << draw(0, 7));
        }
        for (int i = 0; i < 3; i++) {
            // Told weights in the bytes, beyond what can be told to the program.
            write(7 + draw(0, 2) * 4 + draw(0, 2), chance(3) ? draw(0, 255) : draw(-2, 2) & 255);
        }
        mendHead();
        if (call("head") != 0) {
            return;
        }
        for (int i = 0; i < 3 && calls < 350; i++) {
            forgeFrame(chance(2) ? 21 : draw(21, Math.max(21, model.count(8) - 1)));
            call("good");
            call("same");
            call("near", 0);
            for (int k = 0; k < 6; k++) {
                callDrawn(READING);
            }
        }
    }

    private void forgeFrame(int place) {
        int samples = model.store(5) * 256 + model.store(6);
        int size = model.store(4);
        int number = chance(8) ? draw(0, 20) : draw(0, Math.max(0, (samples - 1) / size));
        write(place, 165);
        write(place + 1, number);
        String bits = forgedBits(Math.max(1, Math.min(size, samples - number * size)));
        for (int i = 0; i + 8 <= bits.length() && i < 8 * 60; i += 8) {
            write(place + 2 + i / 8, Integer.parseInt(bits.substring(i, i + 8), 2));
        }
        int end = model.checkPlace(place);
        if (end >= 0 && end + 1 < model.count(8) && !chance(10)) {
            int check = model.checkOf(place, end);
            write(end, check / 256);
            write(end + 1, check % 256);
        }
        call("at", place);
        call("near", place);
    }

    private String drawnBits(int many) {
        StringBuilder out = new StringBuilder();
        for (int i = 0; i < many; i++) {
            out.append(random.nextInt(2));
        }
        return out.toString();
    }

    private static String bits(int value, int many) {
        StringBuilder out = new StringBuilder();
        for (int i = many - 1; i >= 0; i--) {
            out.append(value >> i & 1);
        }
        return out.toString();
    }

    /** A frame's bits, mostly such as can be read: all kinds of row, small residuals, W of 0 and of 31. */
    private String forgedBits(int many) {
        int width = model.store(3);
        StringBuilder out = new StringBuilder();
        int join = 0;
        if (model.store(2) == 2) {
            join = draw(0, 3);
            out.append(bits(join, 2));
        }
        for (int row = 0; row < model.store(2); row++) {
            boolean side = join > 0 && (join == 2) == (row == 0);
            forgeRow(out, side ? width + 1 : width, many);
        }
        return out.append("0000000").toString();
    }

    private void forgeRow(StringBuilder out, int width, int many) {
        int how = chance(20) ? draw(10, 15) : draw(0, 9);
        out.append(bits(how, 4));
        if (how == 8) {
            out.append(bits(draw(-70, 70), width));
        } else if (how == 9) {
            for (int i = 0; i < many; i++) {
                out.append(bits(draw(-70, 70), width));
            }
        } else if (how < 8) {
            int order = how < 5 ? how : 0;
            for (int i = 0; how >= 5 && i < 3; i++) {
                order = model.store(7 + 4 * (how - 5) + i) != 0 ? i + 1 : order;
            }
            for (int i = 0; i < order; i++) {
                out.append(chance(4) ? drawnBits(width) : bits(draw(-3, 3), width));
            }
            forgeRuns(out, many - order);
        }
    }

    private void forgeRuns(StringBuilder out, int numbers) {
        int left = numbers;
        while (left > 0) {
            int groups = (left + 7) / 8;
            int own = chance(20) ? draw(1, 8) : draw(1, groups);
            int[] parameters = {15, 15, 14, 14, 0, 1, draw(0, 13)};
            int parameter = parameters[random.nextInt(parameters.length)];
            int w = chance(3) ? 0 : chance(8) ? draw(1, 31) : draw(1, 2);
            out.append(bits(own - 1, 3)).append(bits(parameter, 4));
            if (parameter == 14) {
                out.append(bits(w, 5));
            }
            for (int i = 0; i < 8 * own && i < left; i++) {
                if (parameter == 14) {
                    out.append(w > 2 && chance(2) ? bits(draw(-1, 0), w) : drawnBits(w));
                } else if (parameter < 14) {
                    out.append("0".repeat(chance(4) ? draw(0, 3) : 0)).append('1').append(drawnBits(parameter));
                }
            }
            left -= 8 * own;
        }
    }
}

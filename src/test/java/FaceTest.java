import java.io.IOException;
import java.lang.reflect.Field;
import java.lang.reflect.Method;
import java.lang.reflect.Modifier;
import java.nio.file.Files;
import java.nio.file.Path;
import java.util.Arrays;
import java.util.Map;
import java.util.Set;
import java.util.TreeMap;
import java.util.TreeSet;
import java.util.regex.Matcher;
import java.util.regex.Pattern;

/** The public face is the document's and no more; the source keeps to what LANGUAGE.md lets be seen in a text. */
public final class FaceTest {
    private static final Path SOURCE = Path.of("src/main/java/WholeSound.java");
    private static final String[] FACE = {
        "feed(long,long,long)", "channel(int)", "samples(int,int)", "fill(int,int,int,int,int)", "clear()", "frame(int)",
        "predictor(int,int,int,int,int)", "effort(int)", "allow(int)", "sample(int,int)", "join(int)", "joined(int,int)",
        "row(int,int,int)", "run(int,int,int,int)", "residual(int,int,int,int)", "tried(int,int,int)",
        "mean(int,int,int)", "size()", "sized(int)", "without(int)", "best()", "pack()", "store(int)", "spoil(int,int)",
        "drop(int)", "take(int)", "head()", "good()", "seek(int,int)", "holds(int)", "near(int)", "at(int)",
        "heard(int,int)", "same()", "ratio()", "loud(int,int)", "count(int)"};
    private static final int MOST_DEEP = 8;
    private static final Pattern CALLED = Pattern.compile("(?<!new )\\b(\\w+)\\(");
    private static int wrong = 0;

    private static void must(boolean holds, String what) {
        if (!holds) {
            wrong++;
            System.out.println("not so: " + what);
        }
    }

    public static void main(String[] args) throws IOException {
        face();
        nested();
        source();
        System.out.println("FaceTest: " + wrong + " wrong");
        if (wrong != 0) {
            System.exit(1);
        }
    }

    private static void face() {
        Class<?> it = WholeSound.class;
        must(Modifier.isPublic(it.getModifiers()) && Modifier.isFinal(it.getModifiers()), "public and final");
        must(it.getConstructors().length == 1 && it.getDeclaredConstructors().length == 1, "one constructor");
        Set<String> open = new TreeSet<>();
        Set<String> names = new TreeSet<>();
        for (Method method : it.getDeclaredMethods()) {
            if (Modifier.isPublic(method.getModifiers())) {
                String types = Arrays.toString(method.getParameterTypes()).replaceAll("[\\[\\] ]", "");
                open.add(method.getName() + "(" + types + ")");
                names.add(method.getName());
                must(method.getReturnType() == int.class, method.getName() + " answers an int");
                must(!Modifier.isStatic(method.getModifiers()), method.getName() + " is of an object");
            }
        }
        must(open.equals(new TreeSet<>(Arrays.asList(FACE))), "the face is " + open);
        for (Method method : it.getDeclaredMethods()) {
            if (!Modifier.isPublic(method.getModifiers())) {
                must(Modifier.isPrivate(method.getModifiers()), method.getName() + " is private");
                must(!names.contains(method.getName()), method.getName() + " is no name of the face");
            }
        }
        for (Field field : it.getDeclaredFields()) {
            boolean constant = field.getName().equals("NONE");
            must(Modifier.isPrivate(field.getModifiers()) != constant, field.getName() + " is private but for NONE");
        }
    }

    private static void nested() {
        Class<?>[] inside = WholeSound.class.getDeclaredClasses();
        must(inside.length <= 12, "at most twelve classes");
        noStaticState(WholeSound.class);
        for (Class<?> each : inside) {
            noStaticState(each);
            int modifiers = each.getModifiers();
            must(Modifier.isStatic(modifiers) && !Modifier.isPublic(modifiers) && !Modifier.isProtected(modifiers),
                    each + " is static, private or package-visible");
            int own = 0;
            for (Field field : each.getDeclaredFields()) {
                own += Modifier.isStatic(field.getModifiers()) ? 0 : 1;
            }
            must(own <= 20, each + " has at most twenty fields");
            for (Method method : each.getDeclaredMethods()) {
                must(method.getParameterCount() <= 7, method + " takes at most seven parameters");
            }
        }
    }

    private static void noStaticState(Class<?> each) {
        for (Field field : each.getDeclaredFields()) {
            if (Modifier.isStatic(field.getModifiers())) {
                must(Modifier.isFinal(field.getModifiers()) && field.getType() == int.class, field + " is a constant");
            }
        }
    }

    private static void source() throws IOException {
        String text = Files.readString(SOURCE);
        must(text.chars().allMatch(sign -> sign == '\n' || sign >= 32 && sign < 127), "plain signs alone");
        String code = text.replaceAll("(?s)/\\*.*?\\*/", "").replaceAll("//[^\n]*", "");
        for (String word : new String[] {"package", "try", "catch", "finally", "synchronized", "assert", "Float", "Double",
            "Object", "System", "Random", "Thread", "equals", "hashCode", "toString", "protected", "volatile", "native"}) {
            must(!code.matches("(?s).*\\b" + word + "\\b.*"), "no " + word);
        }
        must(!code.contains("->") && !code.contains("::"), "no lambda, no method reference");
        must(!code.contains("Exact("), "no Exact");
        String[] imports = code.lines().filter(line -> line.startsWith("import")).toArray(String[]::new);
        must(Arrays.equals(imports, new String[] {"import java.util.NoSuchElementException;"}), "one import");
        code.lines().filter(line -> line.contains("throw new")).forEach(line ->
                must(line.trim().matches("throw new (IndexOutOfBounds|NoSuchElement)Exception\\(\\);"), line));
        Map<String, String> bodies = methods(code);
        for (String name : bodies.keySet()) {
            int deep = depth(bodies, name, 1);
            must(deep <= MOST_DEEP, name + " opens at most eight calls, none of them again: " + deep);
        }
    }

    /** The bodies of the methods by their names (of those of one name together); short ones they must be. */
    private static Map<String, String> methods(String code) {
        Map<String, String> bodies = new TreeMap<>();
        int start = -1;
        String indent = "";
        String[] lines = code.split("\n");
        for (int i = 0; i < lines.length; i++) {
            String line = lines[i];
            boolean opens = line.matches("( {4}| {8})\\S.*\\).*\\{") && !line.matches(" *(if|for|while|switch|}).*");
            if (start < 0 && opens) {
                start = i;
                indent = line.replaceAll("\\S.*", "");
            } else if (start >= 0 && line.equals(indent + "}")) {
                must(i - start < 60, "a short method: " + lines[start].trim());
                Matcher name = CALLED.matcher(lines[start]);
                must(name.find(), "a method with a name: " + lines[start].trim());
                String body = String.join("\n", Arrays.copyOfRange(lines, start + 1, i));
                bodies.merge(name.group(1), body, (one, other) -> one + "\n" + other);
                start = -1;
            }
        }
        must(bodies.size() > FACE.length, "more methods are seen than the face has: " + bodies.size());
        return bodies;
    }

    /** How many calls stand open at most, this one being the so-many-th; by names alone, so rather too many. */
    private static int depth(Map<String, String> bodies, String name, int sofar) {
        int deepest = sofar;
        if (sofar > MOST_DEEP) {
            return deepest;
        }
        Matcher called = CALLED.matcher(bodies.get(name));
        while (called.find()) {
            if (bodies.containsKey(called.group(1))) {
                deepest = Math.max(deepest, depth(bodies, called.group(1), sofar + 1));
            }
        }
        return deepest;
    }
}

import java.lang.reflect.InvocationTargetException;
import java.lang.reflect.Method;
import java.util.ArrayList;
import java.util.Arrays;
import java.util.HashMap;
import java.util.List;
import java.util.Map;
import java.util.Random;

/**
 * Runs of calls drawn with fixed seeds, each made on a Crosshatch and on the Model; the answers and the exceptions
 * have to be the same. Arguments: first seed, how many runs (without any: the ones that .ci/run wants).
 */
public final class RandomRunsTest {
    private static final Map<String, Method> OF_CLASS = methods(Crosshatch.class);
    private static final Map<String, Method> OF_MODEL = methods(Model.class);
    private static final String[] ASKED = {"ofGrid", "ofCell", "ofSlot", "ofWord", "text", "drawn", "clue", "house",
        "count", "nth", "after", "left", "isFit", "dies", "search", "found", "fillings", "filling", "best", "hints",
        "unfair", "nextStep", "hidden", "rearranged", "squares", "rings", "fewest", "compare"};

    private static final int MOST_CALLS = 512;

    private final Random random;
    private final Crosshatch it = new Crosshatch();
    private final Model model = new Model();
    private final List<String> log = new ArrayList<>();
    private final int style;
    private final int wrongShare;

    private RandomRunsTest(long seed) {
        random = new Random(seed);
        style = random.nextInt(6);
        wrongShare = random.nextInt(3) == 0 ? 12 : 150;
    }

    public static void main(String[] args) {
        long first = args.length > 0 ? Long.parseLong(args[0]) : 1;
        long runs = args.length > 1 ? Long.parseLong(args[1]) : 1500;
        Map<String, Integer> answers = new HashMap<>();
        for (long seed = first; seed < first + runs; seed++) {
            RandomRunsTest run = new RandomRunsTest(seed);
            try {
                run.play(answers);
            } catch (AssertionError wrong) {
                System.out.println("seed " + seed + ": " + wrong.getMessage());
                for (String line : run.log) {
                    System.out.println("    " + line);
                }
                System.exit(1);
            }
        }
        for (String name : OF_CLASS.keySet()) {
            if (!answers.containsKey(name)) {
                System.out.println(name + " was never called");
                System.exit(1);
            }
        }
        if (args.length > 0) {
            answers.entrySet().stream().sorted(Map.Entry.comparingByKey()).forEach(System.out::println);
        }
    }

    private static Map<String, Method> methods(Class<?> of) {
        Map<String, Method> methods = new HashMap<>();
        for (Method method : of.getDeclaredMethods()) {
            if (java.lang.reflect.Modifier.isPublic(method.getModifiers())) {
                methods.put(method.getName(), method);
            }
        }
        return methods;
    }

    private void play(Map<String, Integer> answers) {
        begin(answers);
        int calls = random.nextInt(20) == 0 ? MOST_CALLS - 1 - log.size() : 20 + random.nextInt(60);
        for (int k = 0; k < calls; k++) {
            String name = drawnName();
            both(answers, name, argumentsOf(name));
        }
        both(answers, "digest");
    }

    // Styles 0 to 3 are made so that there are often fillings, 4 so that it is often open, 5 so that all comes.
    private void begin(Map<String, Integer> answers) {
        int letters = style == 5 ? 2 + random.nextInt(7) : 2 + random.nextInt(2);
        both(answers, "alphabet", letters);
        if (style == 0) {
            both(answers, "grid", 2, 2 + random.nextInt(2));
        } else if (style == 4) {
            both(answers, "grid", 3 + random.nextInt(3), 4 + random.nextInt(2));
        } else if (style == 5) {
            both(answers, "grid", 2 + random.nextInt(4), 2 + random.nextInt(4));
        } else {
            both(answers, "grid", 2 + random.nextInt(3), 2 + random.nextInt(3));
        }
        int blocks = random.nextInt(style == 0 ? 2 : 6);
        for (int k = 0; k < blocks; k++) {
            int kind = random.nextInt(5);
            both(answers, kind == 0 ? "blocks" : kind < 3 ? "bar" : "block", new Object[0]);
        }
        int words = style == 5 ? random.nextInt(31) : 8 + random.nextInt(25);
        for (int k = 0; k < words; k++) {
            both(answers, "word", wordArguments(letters));
        }
        for (int k = 0; k < words && style % 2 == 1; k++) {
            both(answers, "name", k, true);
        }
        if (style == 2) {
            typeWholePaper(answers);
        }
    }

    private void typeWholePaper(Map<String, Integer> answers) {
        int wide = 2 + random.nextInt(4);
        int high = 2 + random.nextInt(4);
        for (int k = 0; k < (wide + 1) * high; k++) {
            boolean isEnd = k % (wide + 1) == wide;
            both(answers, "type", isEnd ? 10 : random.nextInt(6) == 0 ? random.nextInt(11) : 8);
        }
        both(answers, "house", 4);
        both(answers, "read");
    }

    private Object[] wordArguments(int letters) {
        Object[] word = new Object[6];
        int length = 2 + random.nextInt(4);
        int slots = model.ofGrid(4);
        if (slots > 0 && random.nextInt(8) > 0) {
            length = model.ofSlot(random.nextInt(slots), 2);
        }
        for (int i = 0; i < 5; i++) {
            word[i] = i < length ? random.nextInt(letters) : -2;
        }
        word[5] = random.nextInt(10);
        return word;
    }

    private String drawnName() {
        int pick = random.nextInt(100);
        if (model.walkTo != null && random.nextInt(4) > 0) {
            return random.nextInt(3) > 0 ? "next" : "house";
        }
        String[] changes = {"letter", "lay", "lay", "take", "theme", "step", "step", "ban", "ban", "wish", "name", "name",
            "word", "check", "shortest", "undo", "undo", "keep", "walk", "next", "next", "knock"};
        String[] grids = {"block", "bar", "bar", "blocks", "grid", "alphabet", "read", "wipe"};
        if (pick < 35) {
            return changes[random.nextInt(changes.length)];
        }
        if (pick < (style == 5 ? 42 : 37)) {
            return grids[random.nextInt(grids.length)];
        }
        if (pick < 53) {
            return "type";
        }
        if (pick < 54) {
            return random.nextInt(3) == 0 ? "digest" : "isSound";
        }
        return ASKED[random.nextInt(ASKED.length)];
    }

    private int one(int below) {
        if (random.nextInt(wrongShare) == 0) {
            int[] odd = {-1, -2, -3, below, below + 1, Integer.MIN_VALUE, Integer.MAX_VALUE, 31, 32, -8, 1 << 30};
            return odd[random.nextInt(odd.length)];
        }
        return below > 0 ? random.nextInt(below) : 0;
    }

    private int cell() {
        return one(model.now.grid.cells());
    }

    private int slot() {
        return one(model.ofGrid(4));
    }

    private int word() {
        return one(model.now.words.size());
    }

    private int side() {
        return 2 + one(4);
    }

    private int filling() {
        int many = model.fillings();
        return random.nextInt(4) == 0 ? one(many + 1) : one(many);
    }

    private boolean coin() {
        return random.nextBoolean();
    }

    private int[] pattern() {
        int[] pattern = new int[5];
        int length = 2 + random.nextInt(4);
        for (int i = 0; i < 5; i++) {
            pattern[i] = i >= length ? -2 : coin() ? -1 : random.nextInt(model.now.alphabet);
        }
        if (random.nextInt(wrongShare) == 0) {
            pattern[random.nextInt(5)] = random.nextInt(12) - 3;
        }
        return pattern;
    }

    private int sign() {
        // Mostly what goes on with the row that stands there, so that papers come to their end.
        int typed = model.paper.size();
        int x = typed - 1 - model.paper.lastIndexOf(10);
        int wide = model.paper.contains(10) ? model.paper.indexOf(10) : 2 + style % 4;
        if (random.nextInt(25) == 0) {
            return one(11);
        }
        return x >= wide ? 10 : random.nextInt(3) > 0 ? 8 : coin() ? 9 : random.nextInt(model.now.alphabet);
    }

    private Object[] argumentsOf(String name) {
        int[] p = pattern();
        switch (name) {
            case "grid": return new Object[] {side(), side()};
            case "block": return new Object[] {cell(), random.nextInt(4) > 0};
            case "bar": return new Object[] {cell(), coin(), random.nextInt(4) > 0};
            case "check": return new Object[] {cell(), coin()};
            case "shortest": return new Object[] {side()};
            case "letter": return new Object[] {cell(), one(model.now.alphabet + 1) - 1};
            case "alphabet": return new Object[] {2 + one(7)};
            case "word": return random.nextInt(wrongShare) == 0
                    ? new Object[] {p[0], p[1], p[2], p[3], p[4], one(10)} : wordArguments(model.now.alphabet);
            case "ban": case "wish": case "name": return new Object[] {word(), random.nextInt(3) > 0};
            case "lay": return layable();
            case "take": return new Object[] {taken()};
            case "theme": case "hidden": return new Object[] {word(), word()};
            case "type": return new Object[] {sign()};
            case "walk": return new Object[] {filling()};
            case "ofGrid": return new Object[] {one(11)};
            case "ofCell": return new Object[] {cell(), one(8)};
            case "ofSlot": return new Object[] {slot(), one(9)};
            case "ofWord": return new Object[] {word(), one(7)};
            case "text": case "dies": case "rearranged": return new Object[] {word()};
            case "drawn": return new Object[] {one(model.now.grid.high)};
            case "clue": case "found": return new Object[] {slot()};
            case "house": return new Object[] {one(9)};
            case "count": return new Object[] {p[0], p[1], p[2], p[3], p[4]};
            case "nth": return new Object[] {one(5), p[0], p[1], p[2], p[3], p[4]};
            case "after": return new Object[] {word(), p[0], p[1], p[2], p[3], p[4]};
            case "left": return new Object[] {slot(), one(4)};
            case "isFit": return new Object[] {slot(), word()};
            case "search": case "nextStep": case "compare": return new Object[] {one(3)};
            case "filling": return new Object[] {filling(), slot()};
            case "best": return new Object[] {coin()};
            case "hints": return new Object[] {filling()};
            case "unfair": return new Object[] {filling(), coin()};
            case "squares": return new Object[] {2 + one(3)};
            case "rings": return new Object[] {2 + one(2)};
            case "fewest": return new Object[] {side()};
            default: return new Object[0];
        }
    }

    private Object[] layable() {
        int slots = model.ofGrid(4);
        for (int tries = 0; tries < 60 && slots > 0 && !model.now.words.isEmpty(); tries++) {
            int slot = random.nextInt(slots);
            int word = random.nextInt(model.now.words.size());
            if (model.isFit(slot, word)) {
                return new Object[] {slot, word};
            }
        }
        return new Object[] {slot(), word()};
    }

    private int taken() {
        for (int slot = 0; slot < model.ofGrid(4); slot++) {
            if (model.now.laid.get(slot) != -1 && coin()) {
                return slot;
            }
        }
        return slot();
    }

    private void both(Map<String, Integer> answers, String name, Object... arguments) {
        Object[] given = arguments.length == 0 ? argumentsOf(name) : arguments;
        Object due = answer(OF_MODEL.get(name), model, given);
        Object got = answer(OF_CLASS.get(name), it, given);
        log.add(name + Arrays.toString(given) + " " + due);
        answers.merge(name, 1, Integer::sum);
        if (!(due instanceof Long)) {
            answers.merge(name + " " + (due instanceof Integer n && n > 2 ? "more" : due instanceof String ? "text" : due),
                    1, Integer::sum);
        }
        if (!due.equals(got)) {
            throw new AssertionError("got " + got + ", due is the last one of:");
        }
    }

    private static Object answer(Method method, Object on, Object[] arguments) {
        try {
            return method.invoke(on, arguments);
        } catch (InvocationTargetException thrown) {
            return thrown.getCause().getClass();
        } catch (IllegalAccessException closed) {
            throw new AssertionError(closed);
        }
    }
}

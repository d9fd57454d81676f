import java.util.function.Consumer;
import java.util.function.Function;
import java.util.function.Supplier;

/** What the tests of promises share: they tell each answer that is not the one that is due. */
final class Due {
    private static int wrong;
    private static int looked;

    private Due() {
    }

    static void is(String call, Object got, Object want) {
        looked++;
        if (!want.equals(got)) {
            wrong++;
            System.out.println(call + " answered " + got + ", due is " + want);
        }
    }

    /** The call has to throw just that, and to change nothing. */
    static void fails(String call, Crosshatch on, Class<? extends RuntimeException> want, Runnable made) {
        String before = seen(on);
        Object got = "nothing";
        try {
            made.run();
        } catch (RuntimeException thrown) {
            got = thrown.getClass();
        }
        is(call + " throws", got, want);
        is(call + " changes", seen(on), before);
    }

    /** All that the questions tell that the digest leaves out is texts and what changes them. */
    static String seen(Crosshatch on) {
        StringBuilder seen = new StringBuilder();
        seen.append(on.digest()).append(' ').append(drawn(on));
        int words = on.house(1);
        for (int w = 0; w < words; w++) {
            seen.append(' ').append(on.text(w));
        }
        return seen.toString();
    }

    /**
     * Seen, and all that only later calls tell: where a walk goes, each of the changes that can be undone, the paper,
     * the knocks. The object is used up by that.
     */
    static String whole(Crosshatch on) {
        StringBuilder whole = new StringBuilder(seen(on));
        int slots = on.ofGrid(4);
        for (int slot = 0; slot < slots; slot++) {
            whole.append(' ').append(on.clue(slot));
        }
        whole.append(" walk");
        try {
            for (int next = 0; next != -1;) {
                next = on.next();
                whole.append(' ').append(next);
            }
        } catch (IllegalStateException over) {
            whole.append(" over");
        }
        try {
            for (int steps = 0; steps < 10; steps++) {
                whole.append(" undo ").append(on.undo()).append(' ').append(seen(on));
            }
        } catch (IllegalStateException first) {
            whole.append(" first");
        }
        whole.append(" read ").append(on.read()).append(' ').append(seen(on));
        return whole.append(" knock ").append(on.knock()).toString();
    }

    /** The call has to throw just that, and all is as if it had not been made. */
    static void refused(String call, Supplier<Crosshatch> made, Class<? extends RuntimeException> want,
            Consumer<Crosshatch> asked) {
        Crosshatch on = made.get();
        Object got = "nothing";
        try {
            asked.accept(on);
        } catch (RuntimeException thrown) {
            got = thrown.getClass();
        }
        is(call + " throws", got, want);
        is(call + " changes", whole(on), whole(made.get()));
    }

    /** The call has to answer just that, and all is as if it had not been made. */
    static void idle(String call, Supplier<Crosshatch> made, Object want, Function<Crosshatch, Object> asked) {
        Crosshatch on = made.get();
        is(call, asked.apply(on), want);
        is(call + " changes", whole(on), whole(made.get()));
    }

    static int word(Crosshatch on, String text, int worth) {
        int[] letters = {-2, -2, -2, -2, -2};
        for (int i = 0; i < text.length(); i++) {
            letters[i] = text.charAt(i) - 'a';
        }
        return on.word(letters[0], letters[1], letters[2], letters[3], letters[4], worth);
    }

    /** A new object with that alphabet, that grid and those words, each worth its number's last digit. */
    static Crosshatch with(int letters, int wide, int high, String... words) {
        Crosshatch made = new Crosshatch();
        made.alphabet(letters);
        made.grid(wide, high);
        for (int w = 0; w < words.length; w++) {
            word(made, words[w], w % 10);
        }
        return made;
    }

    /** Signs as they stand on a paper: "ab.#;". */
    static void type(Crosshatch on, String signs) {
        for (int i = 0; i < signs.length(); i++) {
            on.type("abcdefgh.#;".indexOf(signs.charAt(i)));
        }
    }

    static String drawn(Crosshatch on) {
        StringBuilder drawn = new StringBuilder();
        int high = on.ofGrid(1);
        for (int y = 0; y < high; y++) {
            drawn.append(on.drawn(y)).append(';');
        }
        return drawn.toString();
    }

    static void end() {
        System.out.println(looked + " answers looked at, " + wrong + " not as due");
        if (wrong > 0 || looked == 0) {
            System.exit(1);
        }
    }
}

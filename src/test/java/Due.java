/** What the tests of promises share: they tell each answer that is not the one that is due. */
final class Due {
    private static int wrong;
    private static int looked;

    private Due() {
    }

    static void is(String call, Object got, Object want) {
        looked++;
        if (!want.equals(got)) {
            wrong++;
            System.out.println(call + " answered " + got + ", due is " + want);
        }
    }

    /** The call has to throw just that, and to change nothing. */
    static void fails(String call, Crosshatch on, Class<? extends RuntimeException> want, Runnable made) {
        String before = seen(on);
        Object got = "nothing";
        try {
            made.run();
        } catch (RuntimeException thrown) {
            got = thrown.getClass();
        }
        is(call + " throws", got, want);
        is(call + " changes", seen(on), before);
    }

    /** All that the questions tell that the digest leaves out is texts and what changes them. */
    static String seen(Crosshatch on) {
        StringBuilder seen = new StringBuilder();
        seen.append(on.digest());
        for (int y = 0; y < on.ofGrid(1); y++) {
            seen.append(' ').append(on.drawn(y));
        }
        for (int w = 0; w < on.house(1); w++) {
            seen.append(' ').append(on.text(w));
        }
        return seen.toString();
    }

    static int word(Crosshatch on, String text, int worth) {
        int[] letters = {-2, -2, -2, -2, -2};
        for (int i = 0; i < text.length(); i++) {
            letters[i] = text.charAt(i) - 'a';
        }
        return on.word(letters[0], letters[1], letters[2], letters[3], letters[4], worth);
    }

    /** A new object with that alphabet, that grid and those words, each worth its number's last digit. */
    static Crosshatch with(int letters, int wide, int high, String... words) {
        Crosshatch made = new Crosshatch();
        made.alphabet(letters);
        made.grid(wide, high);
        for (int w = 0; w < words.length; w++) {
            word(made, words[w], w % 10);
        }
        return made;
    }

    /** Signs as they stand on a paper: "ab.#;". */
    static void type(Crosshatch on, String signs) {
        for (int i = 0; i < signs.length(); i++) {
            on.type("abcdefgh.#;".indexOf(signs.charAt(i)));
        }
    }

    static String drawn(Crosshatch on) {
        StringBuilder drawn = new StringBuilder();
        for (int y = 0; y < on.ofGrid(1); y++) {
            drawn.append(on.drawn(y)).append(';');
        }
        return drawn.toString();
    }

    static void end() {
        System.out.println(looked + " answers looked at, " + wrong + " not as due");
        if (wrong > 0 || looked == 0) {
            System.exit(1);
        }
    }
}

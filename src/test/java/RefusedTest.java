import java.util.function.Consumer;
import java.util.function.Supplier;

/**
 * "Throws ..": each exception of each signature, at the last value that is refused and at the first one that is taken,
 * on both sides. "If several exceptions apply, the one that is named first is thrown." "A method that throws an
 * exception changes nothing": neither does it end a walk nor take one of the changes that can be undone.
 */
public final class RefusedTest {
    private static final Class<IndexOutOfBoundsException> PLACE = IndexOutOfBoundsException.class;
    private static final Class<IllegalArgumentException> ARGUMENT = IllegalArgumentException.class;
    private static final Class<IllegalStateException> STATE = IllegalStateException.class;

    private RefusedTest() {
    }

    public static void main(String[] args) {
        sizes();
        cells();
        bars();
        letters();
        alphabets();
        words();
        wordsMore();
        wordNumbers();
        lays();
        takes();
        themes();
        signs();
        walks();
        nexts();
        undos();
        kindsOfQuestion();
        slotNumbers();
        rows();
        patterns();
        patternsAll();
        counted();
        fillings();
        openFillings();
        fillingsWithoutSlots();
        lengths();
        fewest();
        compares();
        Due.end();
    }

    private interface Asked {
        void on(Crosshatch x, int number);
    }

    /** Taken from least to most, and refused with that on both sides of it and at the ends of the numbers. */
    private static void only(String call, Supplier<Crosshatch> made, Class<? extends RuntimeException> want, int least,
            int most, Asked asked) {
        for (int number : new int[] {least - 1, most + 1, Integer.MIN_VALUE, Integer.MAX_VALUE}) {
            Due.refused(call + " of " + number, made, want, x -> asked.on(x, number));
        }
        for (int number = least; number <= most; number++) {
            taken(call + " of " + number, made, asked, number);
        }
    }

    private static void taken(String call, Supplier<Crosshatch> made, Asked asked, int number) {
        Object got = "nothing";
        try {
            asked.on(made.get(), number);
        } catch (RuntimeException thrown) {
            got = thrown.getClass();
        }
        Due.is(call + " throws", got, "nothing");
    }

    private static void taken(String call, Supplier<Crosshatch> made, Consumer<Crosshatch> asked) {
        taken(call, made, (x, number) -> asked.accept(x), 0);
    }

    /**
     * "abc", ".#.", "..a" with the first word laid in the slot 0, of 6 words; a walk stands at the first of 6 fillings,
     * 8 changes can be undone, a grid is kept that is other, the paper tells one, and one has knocked.
     */
    static Crosshatch full() {
        Crosshatch made = Due.with(3, 3, 3, "abc", "aba", "cba", "aca", "acc", "caa");
        made.keep();
        made.block(4, true);
        made.check(0, true);
        made.shortest(3);
        made.name(1, true);
        made.wish(2, true);
        made.letter(8, 0);
        made.lay(0, 0);
        Due.type(made, "a.;.#;.b;");
        made.knock();
        made.walk(0);
        made.next();
        return made;
    }

    /** Two changes alone, a walk that has not come to its filling yet. */
    private static Crosshatch bare() {
        Crosshatch made = new Crosshatch();
        made.letter(3, 1);
        made.block(0, true);
        made.walk(0);
        return made;
    }

    private static Crosshatch sized(int wide, int high) {
        Crosshatch made = new Crosshatch();
        made.grid(wide, high);
        return made;
    }

    // ---- promises 2 and 6

    private static void sizes() {
        only("2: wide", RefusedTest::full, ARGUMENT, 2, 5, (x, wide) -> x.grid(wide, 4));
        only("2: high", RefusedTest::full, ARGUMENT, 2, 5, (x, high) -> x.grid(4, high));
        only("2: both", RefusedTest::bare, ARGUMENT, 2, 5, (x, side) -> x.grid(side, side));
        only("6: shortest", RefusedTest::full, ARGUMENT, 2, 5, Crosshatch::shortest);
    }

    // ---- a cell

    private static void cells() {
        int[][] sizes = {{2, 2}, {5, 2}, {2, 5}, {3, 4}, {5, 5}};
        for (int[] size : sizes) {
            Supplier<Crosshatch> made = () -> sized(size[0], size[1]);
            int last = size[0] * size[1] - 1;
            only("3: block", made, PLACE, 0, last, (x, cell) -> x.block(cell, true));
            only("3: white", made, PLACE, 0, last, (x, cell) -> x.block(cell, false));
            only("5: check", made, PLACE, 0, last, (x, cell) -> x.check(cell, true));
            only("5: check not", made, PLACE, 0, last, (x, cell) -> x.check(cell, false));
            only("7: letter", made, PLACE, 0, last, (x, cell) -> x.letter(cell, 0));
            only("7: no letter", made, PLACE, 0, last, (x, cell) -> x.letter(cell, -1));
            only("27: cell", made, PLACE, 0, last, (x, cell) -> x.ofCell(cell, 0));
        }
        only("3: block", RefusedTest::full, PLACE, 0, 8, (x, cell) -> x.block(cell, true));
        only("5: check", RefusedTest::full, PLACE, 0, 8, (x, cell) -> x.check(cell, true));
        only("27: forced", RefusedTest::full, PLACE, 0, 8, (x, cell) -> x.ofCell(cell, 7));
    }

    // ---- promise 4

    private static void bars() {
        int wide = 4;
        int high = 3;
        for (boolean is : new boolean[] {true, false}) {
            for (int cell = 0; cell < wide * high; cell++) {
                int c = cell;
                Supplier<Crosshatch> made = () -> sized(wide, high);
                if (cell % wide == wide - 1) {
                    Due.refused("4: to the right of " + c, made, STATE, x -> x.bar(c, false, is));
                } else {
                    taken("4: to the right of " + c, made, x -> x.bar(c, false, is));
                }
                if (cell / wide == high - 1) {
                    Due.refused("4: below " + c, made, STATE, x -> x.bar(c, true, is));
                } else {
                    taken("4: below " + c, made, x -> x.bar(c, true, is));
                }
            }
        }
        for (int cell : new int[] {-1, 9, -4, 12, Integer.MIN_VALUE, Integer.MAX_VALUE}) {
            Due.refused("4: right of none", RefusedTest::full, PLACE, x -> x.bar(cell, false, true));
            Due.refused("4: below none", RefusedTest::full, PLACE, x -> x.bar(cell, true, true));
            Due.refused("4: below none, away", RefusedTest::full, PLACE, x -> x.bar(cell, true, false));
        }
        Due.refused("4: right edge", RefusedTest::full, STATE, x -> x.bar(5, false, true));
        Due.refused("4: lower edge", RefusedTest::full, STATE, x -> x.bar(6, true, false));
        Due.refused("4: last cell", RefusedTest::full, STATE, x -> x.bar(8, true, true));
        taken("4: a block is a cell, too", RefusedTest::full, x -> x.bar(4, true, true));
        taken("4: beside a block", RefusedTest::full, x -> x.bar(3, false, true));
    }

    // ---- promise 7

    private static void letters() {
        only("7: letter", RefusedTest::full, ARGUMENT, -1, 2, (x, letter) -> x.letter(3, letter));
        only("7: of two", () -> lettered(2), ARGUMENT, -1, 1, (x, letter) -> x.letter(0, letter));
        only("7: of eight", () -> lettered(8), ARGUMENT, -1, 7, (x, letter) -> x.letter(0, letter));
        for (int letter = -1; letter <= 2; letter++) {
            int told = letter;
            Due.refused("7: a block", RefusedTest::full, STATE, x -> x.letter(4, told));
            if (letter == -1 || letter == 1) {
                taken("7: a word has it, or none", RefusedTest::full, x -> x.letter(1, told));
            } else {
                Due.refused("7: a word has another", RefusedTest::full, STATE, x -> x.letter(1, told));
            }
        }
        Supplier<Crosshatch> down = () -> {
            Crosshatch made = full();
            made.lay(2, 5);
            return made;
        };
        Due.refused("7: a word down has another", down, STATE, x -> x.letter(5, 1));
        Due.refused("7: two words have another", down, STATE, x -> x.letter(2, 0));
        taken("7: a word down has it", down, x -> x.letter(5, 0));
        taken("7: two words have it", down, x -> x.letter(2, 2));
        Due.refused("7: cell ahead of letter", RefusedTest::full, PLACE, x -> x.letter(9, 3));
        Due.refused("7: cell ahead of letter", RefusedTest::full, PLACE, x -> x.letter(-1, -2));
        Due.refused("7: letter ahead of block", RefusedTest::full, ARGUMENT, x -> x.letter(4, 3));
        Due.refused("7: letter ahead of block", RefusedTest::full, ARGUMENT, x -> x.letter(4, -2));
        Due.refused("7: letter ahead of word", RefusedTest::full, ARGUMENT, x -> x.letter(1, 3));
    }

    private static Crosshatch lettered(int letters) {
        Crosshatch made = new Crosshatch();
        made.alphabet(letters);
        return made;
    }

    // ---- promise 9

    private static void alphabets() {
        only("9: alphabet", Crosshatch::new, ARGUMENT, 2, 8, Crosshatch::alphabet);
        Supplier<Crosshatch> worded = () -> Due.with(3, 3, 3, "ab");
        Supplier<Crosshatch> told = () -> {
            Crosshatch made = new Crosshatch();
            made.letter(8, 0);
            return made;
        };
        for (int letters = 2; letters <= 8; letters++) {
            int many = letters;
            Due.refused("9: words", worded, STATE, x -> x.alphabet(many));
            Due.refused("9: told letters", told, STATE, x -> x.alphabet(many));
            Due.refused("9: both", RefusedTest::full, STATE, x -> x.alphabet(many));
        }
        for (int letters : new int[] {1, 9, Integer.MIN_VALUE, Integer.MAX_VALUE}) {
            Due.refused("9: argument ahead of words", worded, ARGUMENT, x -> x.alphabet(letters));
            Due.refused("9: argument ahead of letters", told, ARGUMENT, x -> x.alphabet(letters));
        }
        Supplier<Crosshatch> elsewhere = () -> {
            Crosshatch made = new Crosshatch();
            made.letter(0, 3);
            made.keep();
            made.grid(3, 3);
            Due.type(made, "cd");
            return made;
        };
        taken("9: letters on the paper and in what is kept", elsewhere, x -> x.alphabet(2));
        taken("9: the letter went with its block", told, x -> {
            x.block(8, true);
            x.alphabet(5);
        });
    }

    // ---- promise 10

    private static Crosshatch two() {
        return Due.with(3, 3, 3, "ab", "aba");
    }

    private static void words() {
        only("10: a", RefusedTest::two, ARGUMENT, 0, 2, (x, n) -> x.word(n, 2, -2, -2, -2, 1));
        only("10: b", RefusedTest::two, ARGUMENT, 0, 2, (x, n) -> x.word(2, n, -2, -2, -2, 1));
        for (int n : new int[] {-3, -1, 3, Integer.MIN_VALUE, Integer.MAX_VALUE}) {
            Due.refused("10: c " + n, RefusedTest::two, ARGUMENT, x -> x.word(2, 2, n, -2, -2, 1));
            Due.refused("10: d " + n, RefusedTest::two, ARGUMENT, x -> x.word(2, 2, 2, n, -2, 1));
            Due.refused("10: e " + n, RefusedTest::two, ARGUMENT, x -> x.word(2, 2, 2, 2, n, 1));
        }
        for (int n : new int[] {-2, 0, 2}) {
            taken("10: c " + n, RefusedTest::two, x -> x.word(2, 2, n, -2, -2, 1));
            taken("10: d " + n, RefusedTest::two, x -> x.word(2, 2, 2, n, -2, 1));
            taken("10: e " + n, RefusedTest::two, x -> x.word(2, 2, 2, 2, n, 1));
        }
        only("10: worth", RefusedTest::two, ARGUMENT, 0, 9, (x, n) -> x.word(2, 2, -2, -2, -2, n));
        Due.refused("10: no letter at all", RefusedTest::two, ARGUMENT, x -> x.word(-2, -2, -2, -2, -2, 1));
        Due.refused("10: one letter", RefusedTest::two, ARGUMENT, x -> x.word(0, -2, -2, -2, -2, 1));
        Due.refused("10: d behind END", RefusedTest::two, ARGUMENT, x -> x.word(2, 2, -2, 0, -2, 1));
        Due.refused("10: e behind END", RefusedTest::two, ARGUMENT, x -> x.word(2, 2, -2, -2, 0, 1));
        Due.refused("10: d and e behind END", RefusedTest::two, ARGUMENT, x -> x.word(2, 2, -2, 0, 0, 1));
        Due.refused("10: e behind two and END", RefusedTest::two, ARGUMENT, x -> x.word(2, 2, 2, -2, 0, 1));
        Due.refused("10: above the alphabet of two", () -> lettered(2), ARGUMENT, x -> x.word(0, 2, -2, -2, -2, 1));
        taken("10: the last letter of eight", () -> lettered(8), x -> x.word(7, 7, 7, 7, 7, 1));
        Due.refused("10: above eight", () -> lettered(8), ARGUMENT, x -> x.word(7, 7, 7, 7, 8, 1));
    }

    /** So many words of five letters, the first ones by order. */
    static Crosshatch many(int words) {
        Crosshatch made = new Crosshatch();
        for (int k = 0; k < words; k++) {
            made.word(0, 0, k / 16, k / 4 % 4, k % 4, k % 10);
        }
        return made;
    }

    private static void wordsMore() {
        Due.is("10: the thirtieth", many(29).word(3, 3, -2, -2, -2, 0), 29);
        Due.refused("10: the one behind it", () -> many(30), STATE, x -> x.word(3, 3, -2, -2, -2, 0));
        Due.refused("10: one of the thirty", () -> many(30), STATE, x -> x.word(0, 0, 0, 0, 0, 0));
        Due.refused("10: thirty, no letter", () -> many(30), ARGUMENT, x -> x.word(4, 3, -2, -2, -2, 0));
        Due.refused("10: thirty, no worth", () -> many(30), ARGUMENT, x -> x.word(3, 3, -2, -2, -2, 10));
        Due.refused("10: thirty, behind END", () -> many(30), ARGUMENT, x -> x.word(3, 3, -2, 3, -2, 1));
        taken("10: thirty, one undone", () -> many(30), x -> {
            x.undo();
            x.word(3, 3, -2, -2, -2, 0);
        });
        Due.refused("10: it is there", RefusedTest::full, STATE, x -> x.word(0, 1, 2, -2, -2, 0));
        Due.refused("10: with another worth", RefusedTest::full, STATE, x -> x.word(0, 1, 2, -2, -2, 9));
        Due.refused("10: it is banned", () -> {
            Crosshatch made = full();
            made.ban(3, true);
            made.walk(0);
            return made;
        }, STATE, x -> x.word(0, 2, 0, -2, -2, 3));
        Due.refused("10: the last one", RefusedTest::full, STATE, x -> x.word(2, 0, 0, -2, -2, 5));
        Due.refused("10: it is there, no worth", RefusedTest::full, ARGUMENT, x -> x.word(0, 1, 2, -2, -2, -1));
        Due.refused("10: it is there, no worth", RefusedTest::full, ARGUMENT, x -> x.word(0, 1, 2, -2, -2, 10));
        taken("10: its begin", RefusedTest::full, x -> x.word(0, 1, -2, -2, -2, 1));
        taken("10: it goes on", RefusedTest::full, x -> x.word(0, 1, 2, 0, -2, 1));
        taken("10: the same letters", RefusedTest::full, x -> x.word(0, 2, 1, -2, -2, 1));
        taken("10: undone, it can come again", RefusedTest::two, x -> {
            x.undo();
            x.word(0, 1, 0, -2, -2, 1);
        });
    }

    // ---- promises 11 to 13, 29, 30, 36, 39, 48, 49: the number of a word

    private static void wordNumbers() {
        Asked[] asked = {(x, w) -> x.ban(w, true), (x, w) -> x.ban(w, false), (x, w) -> x.wish(w, true),
            (x, w) -> x.wish(w, false), (x, w) -> x.name(w, true), (x, w) -> x.name(w, false),
            (x, w) -> x.ofWord(w, 0), Crosshatch::text, (x, w) -> x.after(w, -1, -1, -2, -2, -2), Crosshatch::dies,
            (x, w) -> x.hidden(w, 0), (x, w) -> x.hidden(0, w), Crosshatch::rearranged,
            (x, w) -> x.isFit(0, w)};
        String[] names = {"11: ban", "11: ban not", "12: wish", "12: wish not", "13: name", "13: name not", "29: word",
            "30: text", "36: after", "39: dies", "48: hidden", "48: hidden in", "49: rearranged", "38: isFit"};
        for (int k = 0; k < asked.length; k++) {
            Asked it = asked[k];
            only(names[k], RefusedTest::full, PLACE, 0, 5, it);
            Due.refused(names[k] + " without words", Crosshatch::new, PLACE, x -> it.on(x, 0));
            taken(names[k] + " of the thirtieth", () -> many(30), it, 29);
            Due.refused(names[k] + " behind the thirtieth", () -> many(30), PLACE, x -> it.on(x, 30));
        }
        Due.refused("48: both", RefusedTest::full, PLACE, x -> x.hidden(6, -1));
    }

    // ---- promise 14

    private static void lays() {
        Supplier<Crosshatch> empty = () -> {
            Crosshatch made = full();
            made.take(0);
            made.letter(8, -1);
            made.walk(0);
            return made;
        };
        only("14: slot", empty, PLACE, 0, 3, (x, slot) -> x.lay(slot, 1));
        only("14: word", empty, PLACE, 0, 5, (x, word) -> x.lay(3, word));
        Due.refused("14: without words", () -> sized(3, 3), PLACE, x -> x.lay(0, 0));
        Due.refused("14: word ahead of what is laid", RefusedTest::full, PLACE, x -> x.lay(0, 6));
        Due.refused("14: word ahead of what is laid", RefusedTest::full, PLACE, x -> x.lay(0, -1));
        Due.refused("14: no slot, no word", RefusedTest::full, PLACE, x -> x.lay(4, 6));
        Due.refused("14: one is laid", RefusedTest::full, STATE, x -> x.lay(0, 1));
        Due.refused("14: it is laid there", RefusedTest::full, STATE, x -> x.lay(0, 0));
        Due.refused("14: laid elsewhere", RefusedTest::full, STATE, x -> x.lay(1, 0));
        Due.refused("14: the laid word's letter", RefusedTest::full, STATE, x -> x.lay(1, 2));
        Due.refused("14: the told letter", RefusedTest::full, STATE, x -> x.lay(3, 4));
        taken("14: with the told letter", RefusedTest::full, x -> x.lay(3, 5));
        Supplier<Crosshatch> banned = () -> {
            Crosshatch made = full();
            made.ban(1, true);
            made.walk(1);
            return made;
        };
        Due.refused("14: banned", banned, STATE, x -> x.lay(1, 1));
        taken("14: not banned any more", banned, x -> {
            x.ban(1, false);
            x.lay(1, 1);
        });
        Supplier<Crosshatch> lengths = () -> Due.with(3, 3, 4, "ab", "aba", "abab");
        Due.refused("14: too short", lengths, STATE, x -> x.lay(0, 0));
        Due.refused("14: too long", lengths, STATE, x -> x.lay(0, 2));
        taken("14: as long, across", lengths, x -> x.lay(0, 1));
        Due.refused("14: too short, down", lengths, STATE, x -> x.lay(1, 1));
        taken("14: as long, down", lengths, x -> x.lay(1, 2));
        Due.refused("14: without slots", () -> blocked(1), PLACE, x -> x.lay(0, 0));
    }

    /** All cells are blocks. */
    private static Crosshatch blocked(int words) {
        Crosshatch made = many(words);
        for (int cell = 0; cell < 9; cell++) {
            made.block(cell, true);
        }
        return made;
    }

    // ---- promise 15

    private static void takes() {
        Supplier<Crosshatch> all = () -> {
            Crosshatch made = full();
            made.lay(1, 1);
            made.lay(2, 5);
            made.lay(3, 3);
            made.walk(0);
            return made;
        };
        only("15: slot", all, PLACE, 0, 3, Crosshatch::take);
        for (int slot = 1; slot <= 3; slot++) {
            int s = slot;
            Due.refused("15: none is laid in " + s, RefusedTest::full, STATE, x -> x.take(s));
        }
        taken("15: one is laid", RefusedTest::full, x -> x.take(0));
        Due.refused("15: without slots", () -> blocked(1), PLACE, x -> x.take(0));
    }

    // ---- promise 16

    private static void themes() {
        only("16: word", RefusedTest::full, PLACE, 0, 5, (x, word) -> x.theme(word, word == 0 ? 5 : 0));
        only("16: other", RefusedTest::full, PLACE, 0, 5, (x, word) -> x.theme(word == 0 ? 5 : 0, word));
        for (int word = 0; word <= 5; word++) {
            int both = word;
            Due.refused("16: twice " + word, RefusedTest::full, ARGUMENT, x -> x.theme(both, both));
        }
        Due.refused("16: twice none", RefusedTest::full, PLACE, x -> x.theme(6, 6));
        Due.refused("16: twice none", RefusedTest::full, PLACE, x -> x.theme(-1, -1));
        Due.refused("16: the first one", RefusedTest::full, PLACE, x -> x.theme(6, 0));
        Due.refused("16: the second one", RefusedTest::full, PLACE, x -> x.theme(0, 6));
        Due.refused("16: without words", Crosshatch::new, PLACE, x -> x.theme(0, 0));
    }

    // ---- promise 18

    private static Crosshatch typed(int signs) {
        Crosshatch made = full();
        made.wipe();
        for (int k = 0; k < signs; k++) {
            made.type(k % 6 == 5 ? 10 : 8);
        }
        return made;
    }

    private static void signs() {
        only("18: sign", RefusedTest::full, ARGUMENT, 0, 10, Crosshatch::type);
        only("18: the thirtieth", () -> typed(29), ARGUMENT, 0, 10, Crosshatch::type);
        for (int sign = 0; sign <= 10; sign++) {
            int s = sign;
            Due.refused("18: thirty stand there", () -> typed(30), STATE, x -> x.type(s));
        }
        for (int sign : new int[] {-1, 11, Integer.MIN_VALUE, Integer.MAX_VALUE}) {
            Due.refused("18: argument ahead of thirty", () -> typed(30), ARGUMENT, x -> x.type(sign));
        }
        taken("18: wiped", () -> typed(30), x -> {
            x.wipe();
            x.type(0);
        });
    }

    // ---- promises 22 to 24

    private static void walks() {
        Due.is("22: six", full().fillings(), 6);
        only("22: from", RefusedTest::full, ARGUMENT, 0, 6, Crosshatch::walk);
        only("22: of none", () -> many(1), ARGUMENT, 0, 0, Crosshatch::walk);
        only("22: without slots", () -> blocked(0), ARGUMENT, 0, 1, Crosshatch::walk);
        Due.refused("22: the old walk goes on", RefusedTest::full, ARGUMENT, x -> x.walk(7));
        Supplier<Crosshatch> open = () -> FillingTest.product(10, 9, 11);
        for (int from : new int[] {0, 1, 1000, Integer.MAX_VALUE}) {
            Due.idle("22: open, from " + from, open, -8, x -> x.walk(from));
        }
        Due.refused("22: open, -1", open, ARGUMENT, x -> x.walk(-1));
        Due.refused("22: open, MIN", open, ARGUMENT, x -> x.walk(Integer.MIN_VALUE));
    }

    private static void nexts() {
        Due.refused("23: a new object has no walk", Crosshatch::new, STATE, Crosshatch::next);
        taken("23: a walk", RefusedTest::full, Crosshatch::next);
        Due.refused("23: behind its end", () -> {
            Crosshatch made = full();
            made.walk(6);
            made.next();
            return made;
        }, STATE, Crosshatch::next);
        taken("23: at its end", () -> {
            Crosshatch made = full();
            made.walk(6);
            return made;
        }, Crosshatch::next);
        Due.refused("23: open", () -> {
            Crosshatch made = FillingTest.product(10, 9, 11);
            made.walk(0);
            return made;
        }, STATE, Crosshatch::next);
    }

    private static void undos() {
        Due.refused("24: a new object", Crosshatch::new, STATE, Crosshatch::undo);
        Due.refused("24: with a walk", () -> {
            Crosshatch made = new Crosshatch();
            made.type(8);
            made.keep();
            made.knock();
            made.walk(0);
            return made;
        }, STATE, Crosshatch::undo);
        Supplier<Crosshatch> used = () -> {
            Crosshatch made = full();
            for (int k = 0; k < 8; k++) {
                made.undo();
            }
            made.walk(0);
            return made;
        };
        Due.refused("24: all eight are undone", used, STATE, Crosshatch::undo);
        taken("24: seven are undone", RefusedTest::full, x -> {
            for (int k = 0; k < 8; k++) {
                x.undo();
            }
        });
    }

    // ---- promises 26 to 29, 33, 40, 47: what

    private static void kindsOfQuestion() {
        only("26: what", RefusedTest::full, ARGUMENT, 0, 10, Crosshatch::ofGrid);
        for (int cell = 0; cell < 9; cell++) {
            int c = cell;
            only("27: what", RefusedTest::full, ARGUMENT, 0, 7, (x, what) -> x.ofCell(c, what));
        }
        Due.refused("27: cell ahead of what", RefusedTest::full, PLACE, x -> x.ofCell(9, 8));
        Due.refused("27: cell ahead of what", RefusedTest::full, PLACE, x -> x.ofCell(-1, -1));
        for (int slot = 0; slot < 4; slot++) {
            int s = slot;
            only("28: what", RefusedTest::full, ARGUMENT, 0, 8, (x, what) -> x.ofSlot(s, what));
        }
        Due.refused("28: slot ahead of what", RefusedTest::full, PLACE, x -> x.ofSlot(4, 9));
        Due.refused("28: slot ahead of what", RefusedTest::full, PLACE, x -> x.ofSlot(-1, -1));
        for (int word = 0; word < 6; word++) {
            int w = word;
            only("29: what", RefusedTest::full, ARGUMENT, 0, 6, (x, what) -> x.ofWord(w, what));
        }
        Due.refused("29: word ahead of what", RefusedTest::full, PLACE, x -> x.ofWord(6, 7));
        Due.refused("29: word ahead of what", RefusedTest::full, PLACE, x -> x.ofWord(-1, -1));
        only("33: what", RefusedTest::full, ARGUMENT, 0, 8, Crosshatch::house);
        only("40: what", RefusedTest::full, ARGUMENT, 0, 2, Crosshatch::search);
        only("40: what, open", () -> FillingTest.product(10, 9, 11), ARGUMENT, 0, 2, Crosshatch::search);
        only("47: what", RefusedTest::full, ARGUMENT, 0, 2, Crosshatch::nextStep);
        only("47: what, of no step", Crosshatch::new, ARGUMENT, 0, 2, Crosshatch::nextStep);
    }

    // ---- promises 28, 32, 37, 38, 41, 43: the number of a slot

    private static void slotNumbers() {
        Asked[] asked = {(x, s) -> x.ofSlot(s, 0), Crosshatch::clue, (x, s) -> x.left(s, 0), (x, s) -> x.isFit(s, 0),
            Crosshatch::found, (x, s) -> x.filling(0, s)};
        String[] names = {"28: slot", "32: clue", "37: left", "38: isFit", "41: found", "43: filling"};
        for (int k = 0; k < asked.length; k++) {
            Asked it = asked[k];
            only(names[k], RefusedTest::full, PLACE, 0, 3, it);
            Due.refused(names[k] + " without slots", () -> blocked(1), PLACE, x -> it.on(x, 0));
        }
        Supplier<Crosshatch> twenty = () -> {
            Crosshatch made = many(1);
            made.grid(5, 5);
            for (int k = 0; k < 5; k++) {
                made.bar(5 * k + 1, false, true);
                made.bar(5 + k, true, true);
            }
            return made;
        };
        only("28: of twenty slots", twenty, PLACE, 0, 19, (x, s) -> x.ofSlot(s, 3));
        only("32: of twenty slots", twenty, PLACE, 0, 19, Crosshatch::clue);
        Due.refused("38: no slot, no word", RefusedTest::full, PLACE, x -> x.isFit(4, 6));
        only("37: k", RefusedTest::full, ARGUMENT, 0, Integer.MAX_VALUE - 1, 5, (x, k) -> x.left(0, k));
        Due.refused("37: slot ahead of k", RefusedTest::full, PLACE, x -> x.left(4, -1));
        Due.refused("37: slot ahead of k", RefusedTest::full, PLACE, x -> x.left(-1, -1));
    }

    /** Refused below least alone; above it there are too many to look at more than some. */
    private static void only(String call, Supplier<Crosshatch> made, Class<? extends RuntimeException> want, int least,
            int most, int some, Asked asked) {
        Due.refused(call + " of " + (least - 1), made, want, x -> asked.on(x, least - 1));
        Due.refused(call + " of MIN", made, want, x -> asked.on(x, Integer.MIN_VALUE));
        for (int number : new int[] {least, least + 1, some, most, Integer.MAX_VALUE}) {
            taken(call + " of " + number, made, asked, number);
        }
    }

    // ---- promise 31

    private static void rows() {
        only("31: row", RefusedTest::full, PLACE, 0, 2, Crosshatch::drawn);
        only("31: of two rows", () -> sized(5, 2), PLACE, 0, 1, Crosshatch::drawn);
        only("31: of five rows", () -> sized(2, 5), PLACE, 0, 4, Crosshatch::drawn);
    }

    // ---- promises 34 to 36

    private interface Patterned {
        void on(Crosshatch x, int[] p);
    }

    private static void each(String call, int[] p, boolean is) {
        Patterned[] asked = {(x, n) -> x.count(n[0], n[1], n[2], n[3], n[4]),
            (x, n) -> x.nth(0, n[0], n[1], n[2], n[3], n[4]), (x, n) -> x.after(0, n[0], n[1], n[2], n[3], n[4])};
        for (int k = 0; k < asked.length; k++) {
            Patterned it = asked[k];
            if (is) {
                taken(34 + k + ": " + call, RefusedTest::full, x -> it.on(x, p));
            } else {
                Due.refused(34 + k + ": " + call, RefusedTest::full, ARGUMENT, x -> it.on(x, p));
            }
        }
    }

    private static void patterns() {
        for (int place = 0; place < 5; place++) {
            for (int n : new int[] {-3, 3, Integer.MIN_VALUE, Integer.MAX_VALUE, -1, 0, 2}) {
                int[] p = {-1, 0, -1, 0, -1};
                p[place] = n;
                each(n + " at " + place, p, n >= -1 && n <= 2);
            }
        }
        Due.refused("35: k -1", RefusedTest::full, ARGUMENT, x -> x.nth(-1, -1, -1, -2, -2, -2));
        Due.refused("35: k MIN", RefusedTest::full, ARGUMENT, x -> x.nth(Integer.MIN_VALUE, -1, -1, -2, -2, -2));
        Due.refused("35: both", RefusedTest::full, ARGUMENT, x -> x.nth(-1, -2, -2, -2, -2, -2));
        taken("35: k 0", RefusedTest::full, x -> x.nth(0, -1, -1, -2, -2, -2));
        taken("35: k MAX", RefusedTest::full, x -> x.nth(Integer.MAX_VALUE, -1, -1, -2, -2, -2));
        Due.refused("36: word ahead of pattern", RefusedTest::full, PLACE, x -> x.after(6, -1, -2, -2, -2, -2));
        Due.refused("36: word ahead of pattern", RefusedTest::full, PLACE, x -> x.after(-1, 3, 0, 0, 0, 0));
    }

    // "END stands nowhere but behind 2, 3 or 4 others, and behind the first END all are END."
    private static void patternsAll() {
        for (int ends = 0; ends < 32; ends++) {
            int[] p = new int[5];
            boolean is = false;
            for (int place = 0; place < 5; place++) {
                p[place] = (ends >> place & 1) == 1 ? -2 : place % 2 - 1;
            }
            for (int length = 2; length <= 5; length++) {
                is |= ends == (31 >> length << length);
            }
            each("ends " + ends, p, is);
        }
    }

    // ---- the length of a row that is asked for: k

    private static void counted() {
        only("35: k", RefusedTest::full, ARGUMENT, 0, Integer.MAX_VALUE - 1, 7,
                (x, k) -> x.nth(k, -1, -1, -1, -2, -2));
        Due.is("37: k 1 is behind the last", full().left(0, 1), -1);
    }

    // ---- promises 43, 45, 46

    private static void fillings() {
        only("43: k", RefusedTest::full, ARGUMENT, 0, 5, (x, k) -> x.filling(k, 3));
        only("45: k", RefusedTest::full, ARGUMENT, 0, 5, Crosshatch::hints);
        only("46: k, cells", RefusedTest::full, ARGUMENT, 0, 5, (x, k) -> x.unfair(k, false));
        only("46: k, words", RefusedTest::full, ARGUMENT, 0, 5, (x, k) -> x.unfair(k, true));
        Due.refused("43: slot ahead of k", RefusedTest::full, PLACE, x -> x.filling(6, 4));
        Due.refused("43: slot ahead of k", RefusedTest::full, PLACE, x -> x.filling(-1, -1));
        Supplier<Crosshatch> none = () -> many(1);
        Due.refused("43: there is none", none, ARGUMENT, x -> x.filling(0, 0));
        Due.refused("43: there is none, and no slot", none, PLACE, x -> x.filling(0, 6));
        Due.refused("45: there is none", none, ARGUMENT, x -> x.hints(0));
        Due.refused("46: there is none", none, ARGUMENT, x -> x.unfair(0, true));
        Due.refused("46: there is none", none, ARGUMENT, x -> x.unfair(0, false));
    }

    private static void openFillings() {
        Supplier<Crosshatch> open = () -> FillingTest.product(10, 9, 11);
        for (int k : new int[] {0, 989, 990, 1000, 1001, Integer.MAX_VALUE}) {
            Due.idle("43: open, " + k, open, -8, x -> x.filling(k, 2));
            Due.idle("45: open, " + k, open, -8, x -> x.hints(k));
            Due.idle("46: open, " + k, open, -8, x -> x.unfair(k, false));
            Due.idle("46: open, " + k, open, -8, x -> x.unfair(k, true));
        }
        for (int k : new int[] {-1, Integer.MIN_VALUE}) {
            Due.refused("43: open", open, ARGUMENT, x -> x.filling(k, 2));
            Due.refused("43: open, no slot", open, PLACE, x -> x.filling(k, 3));
            Due.refused("45: open", open, ARGUMENT, x -> x.hints(k));
            Due.refused("46: open, cells", open, ARGUMENT, x -> x.unfair(k, false));
            Due.refused("46: open, words", open, ARGUMENT, x -> x.unfair(k, true));
        }
        Due.refused("43: open, no slot", open, PLACE, x -> x.filling(0, 3));
        Due.refused("43: open, no slot", open, PLACE, x -> x.filling(0, -1));
    }

    // The one filling has no slot of which it could be asked, but hints and what is unfair.
    private static void fillingsWithoutSlots() {
        only("45: without slots", () -> blocked(1), ARGUMENT, 0, 0, Crosshatch::hints);
        only("46: without slots", () -> blocked(1), ARGUMENT, 0, 0, (x, k) -> x.unfair(k, true));
        only("46: without slots", () -> blocked(1), ARGUMENT, 0, 0, (x, k) -> x.unfair(k, false));
        Due.refused("43: without slots", () -> blocked(1), PLACE, x -> x.filling(0, 0));
        Due.refused("43: without slots", () -> blocked(1), PLACE, x -> x.filling(1, 0));
    }

    // ---- promises 50 to 53

    private static void lengths() {
        only("50: n", RefusedTest::full, ARGUMENT, 2, 4, Crosshatch::squares);
        only("50: n, without words", Crosshatch::new, ARGUMENT, 2, 4, Crosshatch::squares);
        only("51: n", RefusedTest::full, ARGUMENT, 2, 3, Crosshatch::rings);
        only("51: n, without words", Crosshatch::new, ARGUMENT, 2, 3, Crosshatch::rings);
    }

    private static void fewest() {
        only("52: most", RefusedTest::full, ARGUMENT, 2, 5, Crosshatch::fewest);
        for (int wide = 2; wide <= 5; wide++) {
            for (int high = 2; high <= 5; high++) {
                int w = wide;
                int h = high;
                Supplier<Crosshatch> made = () -> sized(w, h);
                if (wide * high <= 16) {
                    only("52: " + w + " by " + h, made, ARGUMENT, 2, 5, Crosshatch::fewest);
                } else {
                    Due.refused("52: " + w + " by " + h, made, STATE, x -> x.fewest(2));
                    Due.refused("52: " + w + " by " + h, made, STATE, x -> x.fewest(5));
                    Due.refused("52: argument ahead of size", made, ARGUMENT, x -> x.fewest(1));
                    Due.refused("52: argument ahead of size", made, ARGUMENT, x -> x.fewest(6));
                }
            }
        }
    }

    private static void compares() {
        only("53: what", RefusedTest::full, ARGUMENT, 0, 2, Crosshatch::compare);
        only("53: what, none is kept", Crosshatch::new, ARGUMENT, 0, 2, Crosshatch::compare);
    }
}

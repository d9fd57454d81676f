import java.util.List;
import java.util.function.Supplier;

/** Promises 48 to 55: hidden and rearranged letters, squares, rings, blocks that are missing, comparing, the digest. */
public final class ClueTest {
    private static final Class<IndexOutOfBoundsException> PLACE = IndexOutOfBoundsException.class;
    private static final Class<IllegalArgumentException> ARGUMENT = IllegalArgumentException.class;
    private static final Class<IllegalStateException> STATE = IllegalStateException.class;

    private ClueTest() {
    }

    public static void main(String[] args) {
        promise48();
        promise49();
        promise50();
        promise51();
        promise52();
        promise53();
        promise54();
        promise55();
        Due.end();
    }

    private static Crosshatch words() {
        return Due.with(4, 3, 3, "ab", "ba", "aba", "abab", "babab", "aab", "baa", "abcd", "bd", "ac", "ad", "acd");
    }

    private static void promise48() {
        Crosshatch x = words();
        int[][] want = {{0, 1, 9}, {0, 0, 0}, {2, 2, 1}, {0, 2, 2}, {2, 3, 2}, {0, 5, 6}, {1, 6, 6}, {5, 6, 9},
            {8, 7, 4}, {9, 7, 4}, {7, 8, 0}, {3, 4, 2}, {0, 7, 2}, {10, 7, 0}, {11, 7, 0}, {1, 4, 2}, {0, 4, 2},
            {2, 5, 8}, {6, 5, 9}, {10, 11, 4}, {5, 5, 0}};
        for (int[] w : want) {
            Due.is("48: " + x.text(w[0]) + " in " + x.text(w[1]), x.hidden(w[0], w[1]), w[2]);
        }
        Crosshatch y = Due.with(2, 3, 3, "bbb", "ababa", "babab", "bbbb", "bb", "aaa");
        Due.is("48: from the second one on, to the end only", y.hidden(0, 1), 0);
        Due.is("48: aaa is every second", y.hidden(5, 1), 4);
        Due.is("48: bb from the second one on", y.hidden(4, 1), 4);
        Due.is("48: bbb in babab", y.hidden(0, 2), 4);
        Due.is("48: bb in bbbb", y.hidden(4, 3), 6);
        Due.is("48: babab backward is itself", y.hidden(2, 2), 1);
        Due.fails("48: first", x, PLACE, () -> x.hidden(12, 0));
        Due.fails("48: second", x, PLACE, () -> x.hidden(0, 12));
        Due.fails("48: first -1", x, PLACE, () -> x.hidden(-1, 0));
        Due.fails("48: second -1", x, PLACE, () -> x.hidden(0, -1));
    }

    private static void promise49() {
        Crosshatch x = words();
        String[] want = {"1", "0", "5 6", "", "", "2 6", "5 2", "", "", "", "", ""};
        for (int word = 0; word < want.length; word++) {
            Due.is("49: rearranged(" + word + ")", x.rearranged(word), want[word]);
        }
        x.ban(5, true);
        Due.is("49: banned, too", x.rearranged(2), "5 6");
        Crosshatch y = Due.with(3, 3, 3, "ccb", "ccc", "aaa", "aab", "aba", "bab", "bba", "abb", "cca", "aac", "caa", "aca");
        Due.is("49: two digits", y.rearranged(9), "11 10");
        Due.fails("49: no word", x, PLACE, () -> x.rearranged(12));
        Due.fails("49: word -1", x, PLACE, () -> x.rearranged(-1));
    }

    private static void promise50() {
        // Any two unlike words of which the second letter of the first is the first one of the second.
        Crosshatch x = Due.with(3, 2, 2, "ab", "ca", "ac", "ba");
        Due.is("50: of two", x.squares(2), 6);
        Due.is("50: of three", x.squares(3), 0);
        x.ban(0, true);
        Due.is("50: without ab", x.squares(2), 3);
        Crosshatch y = Due.with(4, 2, 2, "abc", "bdb", "cba", "bcd", "abcd", "bcda", "cdab", "dabc", "abca");
        // abc bdb cba, cba bdb abc; the rows bcd, cdx are not there.
        Due.is("50: of three", y.squares(3), 2);
        // The four rows from any one on, and abca in the place of abcd below dabc.
        Due.is("50: of four", y.squares(4), 5);
        y.ban(5, true);
        Due.is("50: of four, one banned", y.squares(4), 0);
        Crosshatch z = Due.with(2, 2, 2, "aa", "ab");
        Due.is("50: a word twice is none", z.squares(2), 1);
        for (int n : new int[] {1, 5, 0, -2, Integer.MAX_VALUE, Integer.MIN_VALUE}) {
            Due.fails("50: squares", x, ARGUMENT, () -> x.squares(n));
        }
    }

    private static void promise51() {
        Crosshatch x = Due.with(3, 2, 2, "ab", "ca", "ac", "ba");
        Due.is("51: ab ba, ca ac", x.rings(2), 2);
        Due.is("51: of three", x.rings(3), 0);
        Due.word(x, "bc", 0);
        Due.word(x, "cb", 0);
        Due.is("51: and bc cb", x.rings(2), 3);
        Due.is("51: ab bc ca, and backward", x.rings(3), 2);
        x.ban(4, true);
        Due.is("51: without bc", x.rings(2), 2);
        Due.is("51: without bc", x.rings(3), 1);
        Crosshatch y = Due.with(2, 2, 2, "aa", "aba", "abba");
        Due.is("51: any two", y.rings(2), 3);
        Due.is("51: both ways round", y.rings(3), 2);
        for (int n : new int[] {1, 4, 0, -3, Integer.MAX_VALUE, Integer.MIN_VALUE}) {
            Due.fails("51: rings", x, ARGUMENT, () -> x.rings(n));
        }
    }

    private static void promise52() {
        Crosshatch x = new Crosshatch();
        Due.is("52: nothing is missing", x.fewest(3), 0);
        Due.is("52: nothing is missing", x.fewest(5), 0);
        Due.is("52: only the middle can stay", x.fewest(2), 8);
        Due.is("52: no change", x.house(5), 0);
        x.grid(2, 3);
        Due.is("52: two corners", x.fewest(2), 2);
        x.letter(0, 1);
        Due.is("52: where letters are, too", x.fewest(2), 2);
        x.block(0, true);
        Due.is("52: one is there", x.fewest(2), 1);
        x.block(1, true);
        Due.is("52: partners of both", x.fewest(5), 2);
        x.grid(4, 4);
        Due.is("52: each row and column", x.fewest(3), 4);
        Due.is("52: 16 cells", x.fewest(4), 0);
        x.bar(0, false, true);
        Due.is("52: a bar without its partner", x.fewest(4), -1);
        x.bar(14, false, true);
        x.shortest(4);
        Due.is("52: shortest 4", x.fewest(4) > 0, true);
        x.grid(2, 2);
        x.shortest(2);
        x.check(0, true);
        Due.is("52: checked", x.fewest(2), 0);
        x.block(3, true);
        Due.is("52: checked, but has to be a block", x.fewest(2), -1);
        Due.fails("52: 1", x, ARGUMENT, () -> x.fewest(1));
        Due.fails("52: 6", x, ARGUMENT, () -> x.fewest(6));
        x.grid(3, 5);
        Due.is("52: 15 cells", x.fewest(5), 0);
        x.grid(4, 5);
        Due.fails("52: 20 cells", x, STATE, () -> x.fewest(3));
        Due.fails("52: argument ahead of state", x, ARGUMENT, () -> x.fewest(6));
    }

    private static void compare(String name, Crosshatch x, int cells, int slots, int alike) {
        Due.is("53: cells, " + name, x.compare(0), cells);
        Due.is("53: slots, " + name, x.compare(1), slots);
        Due.is("53: alike, " + name, x.compare(2), alike);
    }

    private static void promise53() {
        Crosshatch x = new Crosshatch();
        compare("none is kept", x, -1, -1, -1);
        Due.fails("53: argument, none kept", x, ARGUMENT, () -> x.compare(3));
        x.keep();
        compare("the same", x, 0, 6, 1);
        x.letter(0, 1);
        compare("a letter", x, 1, 6, 0);
        x.keep();
        x.letter(0, 2);
        compare("another letter", x, 1, 6, 0);
        x.letter(0, 1);
        x.bar(0, false, true);
        compare("a bar", x, 0, 5, 0);
        x.bar(0, false, false);
        x.check(3, true);
        x.shortest(4);
        compare("what is not kept", x, 0, 6, 1);
        x.block(4, true);
        compare("a block", x, 1, 4, 0);
        x.grid(4, 3);
        x.letter(0, 1);
        // The columns 0 to 2 are in both; the rows are longer.
        compare("wider", x, 3, 3, 0);
        x.grid(2, 2);
        compare("smaller", x, 6, 0, 0);
        x.grid(3, 4);
        x.letter(0, 1);
        compare("higher", x, 3, 3, 0);
        Due.fails("53: -1", x, ARGUMENT, () -> x.compare(-1));
        Due.fails("53: 3", x, ARGUMENT, () -> x.compare(3));
    }

    private static void promise54() {
        Crosshatch x = Due.with(3, 3, 3, "abc", "aba", "cba", "aca", "acc", "caa");
        Due.is("54: at first", new Crosshatch().isSound(), true);
        Due.is("54: with words", x.isSound(), true);
        x.block(4, true);
        Due.is("54: with fillings", x.isSound(), true);
        x.lay(0, 0);
        Due.is("54: laid", x.isSound(), true);
        x.ban(0, true);
        Due.is("54: laid and banned", x.isSound(), true);
        x.block(0, true);
        Due.is("54: with faults", x.isSound(), true);
        x.bar(2, true, true);
        Due.is("54: with a bar", x.isSound(), true);
        Due.is("54: many fillings", FillingTest.product(10, 9, 10).isSound(), true);
        Due.is("54: open", FillingTest.product(10, 9, 11).isSound(), true);
    }

    private static long d;

    private static void mix(int v) {
        d = d * 31 + v;
    }

    /** The checksum once more, by what the other calls tell; so many that one object would be used for too many. */
    static long digest(Supplier<Crosshatch> made) {
        d = 6705;
        Crosshatch x = made.get();
        for (int what = 0; what <= 10; what++) {
            mix(x.ofGrid(what));
        }
        int cells = x.ofGrid(0) * x.ofGrid(1);
        for (int cell = 0; cell < cells; cell++) {
            for (int what = 0; what <= 7; what++) {
                mix(x.ofCell(cell, what));
            }
        }
        digestOfSlots(made.get());
        digestOfWords(made.get());
        digestOfFillings(made.get());
        return d;
    }

    private static void digestOfSlots(Crosshatch x) {
        int slots = x.ofGrid(4);
        for (int slot = 0; slot < slots; slot++) {
            for (int what = 0; what <= 8; what++) {
                mix(x.ofSlot(slot, what));
            }
            mix(x.clue(slot).length());
            mix(x.found(slot));
        }
    }

    private static void digestOfWords(Crosshatch x) {
        int words = x.house(1);
        for (int word = 0; word < words; word++) {
            for (int what = 0; what <= 6; what++) {
                mix(x.ofWord(word, what));
            }
            mix(x.dies(word));
            mix(x.rearranged(word).length());
        }
        for (int what = 0; what <= 8; what++) {
            mix(x.house(what));
        }
    }

    private static void digestOfFillings(Crosshatch x) {
        for (int what = 0; what <= 2; what++) {
            mix(x.search(what));
        }
        mix(x.fillings());
        mix(x.best(true));
        mix(x.best(false));
        if (x.fillings() > 0) {
            mix(x.hints(0));
            mix(x.unfair(0, false));
            mix(x.unfair(0, true));
        }
        for (int what = 0; what <= 2; what++) {
            mix(x.nextStep(what));
        }
        mix(x.squares(2));
        mix(x.squares(3));
        mix(x.rings(2));
        for (int what = 0; what <= 2; what++) {
            mix(x.compare(what));
        }
        mix(x.isSound() ? 1 : 0);
    }

    private static Crosshatch used(Crosshatch made) {
        made.keep();
        made.knock();
        Due.type(made, "..;#");
        return made;
    }

    private static Crosshatch walking(Crosshatch made) {
        used(made);
        made.name(0, true);
        made.wish(0, true);
        made.walk(0);
        return made;
    }

    private static void promise55() {
        List<Supplier<Crosshatch>> all = List.of(ClueTest::words,
                () -> Due.with(3, 2, 2, "ab", "ca", "ac", "ba"), () -> FillingTest.product(10, 9, 10),
                () -> FillingTest.product(10, 9, 11));
        Due.is("55: a new object", new Crosshatch().digest(), digest(Crosshatch::new));
        for (Supplier<Crosshatch> made : all) {
            Due.is("55: digest", used(made.get()).digest(), digest(() -> used(made.get())));
            Due.is("55: with a walk", walking(made.get()).digest(), digest(() -> walking(made.get())));
        }
        Crosshatch x = words();
        Due.is("55: the same again", x.digest(), x.digest());
    }
}

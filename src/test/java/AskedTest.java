/** Promises 26 to 33: what there is. */
public final class AskedTest {
    private static final Class<IndexOutOfBoundsException> PLACE = IndexOutOfBoundsException.class;
    private static final Class<IllegalArgumentException> ARGUMENT = IllegalArgumentException.class;

    private AskedTest() {
    }

    public static void main(String[] args) {
        promise26();
        promise27();
        promise27Forced();
        promise28();
        promise29();
        promise30();
        promise31();
        promise32();
        promise33();
        Due.end();
    }

    private static void all(String name, int[] got, int... want) {
        for (int k = 0; k < want.length; k++) {
            Due.is(name + "(" + k + ")", got[k], want[k]);
        }
    }

    private static int[] grid(Crosshatch x) {
        int[] got = new int[11];
        for (int what = 0; what <= 10; what++) {
            got[what] = x.ofGrid(what);
        }
        return got;
    }

    // "a.#.|."   with the bar on the right of cell 3
    // "#...."
    private static Crosshatch some() {
        Crosshatch made = Due.with(4, 5, 2, "ab", "cab", "bd");
        made.block(2, true);
        made.block(5, true);
        made.bar(3, false, true);
        made.letter(0, 0);
        made.check(4, true);
        return made;
    }

    private static void promise26() {
        Crosshatch x = some();
        // Slots: 0a (0 1), 1d (1 6), 3d (3 8), 4d (4 9), 6a (6 7 8 9)
        all("26: ofGrid", grid(x), 5, 2, 2, 1, 5, 1, 0, 2, 5, 1, 4 + 8);
        x.lay(0, 0);
        x.lay(1, 2);
        Due.is("26: laid", x.ofGrid(6), 2);
        x.shortest(4);
        Due.is("26: shortest", x.ofGrid(7), 4);
        Due.is("26: faults", x.ofGrid(10), 2 + 4 + 8);
        x.block(6, true);
        Due.is("26: parts", x.ofGrid(9), 2);
        Due.is("26: faults", x.ofGrid(10), 1 + 2 + 4 + 8);
        Crosshatch y = new Crosshatch();
        y.grid(2, 2);
        for (int cell = 0; cell < 4; cell++) {
            y.block(cell, true);
        }
        all("26: all blocks", grid(y), 2, 2, 4, 0, 0, 0, 0, 2, 0, 0, 0);
        for (int what : new int[] {-1, 11, Integer.MAX_VALUE, Integer.MIN_VALUE}) {
            Due.fails("26: ofGrid", x, ARGUMENT, () -> x.ofGrid(what));
        }
    }

    private static void promise27() {
        Crosshatch x = some();
        int[][] want = {{0, 0, 0, 1, 0, -1, 0}, {0, -1, -1, 2, 0, 1, 0}, {1, -1, -1, 0, -1, -1, 0},
            {0, -1, -1, 3, -1, 2, 0}, {0, -1, -1, 4, -1, 3, 1}, {1, -1, -1, 0, -1, -1, 0}, {0, -1, -1, 5, 4, 1, 0},
            {0, -1, -1, 0, 4, -1, 0}, {0, -1, -1, 0, 4, 2, 0}, {0, -1, -1, 0, 4, 3, 0}};
        for (int cell = 0; cell < 10; cell++) {
            for (int what = 0; what <= 6; what++) {
                Due.is("27: ofCell(" + cell + ", " + what + ")", x.ofCell(cell, what), want[cell][what]);
            }
        }
        x.lay(0, 0);
        Due.is("27: there by a word", x.ofCell(1, 1), 1);
        Due.is("27: but not told", x.ofCell(1, 2), -1);
        Due.fails("27: no cell", x, PLACE, () -> x.ofCell(10, 0));
        Due.fails("27: cell ahead of what", x, PLACE, () -> x.ofCell(-1, 8));
        Due.fails("27: what 8", x, ARGUMENT, () -> x.ofCell(9, 8));
        Due.fails("27: what -1", x, ARGUMENT, () -> x.ofCell(0, -1));
    }

    private static void promise27Forced() {
        // Two fillings: ab/ca and ac/ba, which have "a" in two cells.
        Crosshatch x = Due.with(3, 2, 2, "ab", "ca", "ac", "ba");
        all("27: forced", new int[] {x.ofCell(0, 7), x.ofCell(1, 7), x.ofCell(2, 7), x.ofCell(3, 7)}, 0, -1, -1, 0);
        x.letter(1, 1);
        all("27: one filling", new int[] {x.ofCell(0, 7), x.ofCell(1, 7), x.ofCell(2, 7), x.ofCell(3, 7)}, 0, 1, 2, 0);
        x.letter(3, 1);
        Due.is("27: none", x.ofCell(0, 7), -1);
        // A cell in no slot has none forced, even with a letter told.
        Crosshatch y = Due.with(2, 2, 2, "ab");
        y.block(2, true);
        y.block(3, true);
        y.bar(0, false, true);
        y.letter(0, 1);
        Due.is("27: a filling without slots", y.fillings(), 1);
        Due.is("27: in no slot", y.ofCell(0, 7), -1);
        Crosshatch z = FillingTest.product(10, 9, 11);
        Due.is("27: open", z.ofCell(0, 7), -8);
        Due.is("27: open, for a block, too", z.ofCell(11, 7), -8);
        Crosshatch w = FillingTest.product(10, 9, 10);
        Due.is("27: not open", w.ofCell(11, 7), -1);
    }

    private static void promise28() {
        Crosshatch x = some();
        int[][] want = {{0, 0, 2, 1, -1, 1, 0, -1, 1}, {1, 1, 2, 2, -1, 2, 0, 2, 2}, {3, 1, 2, 3, -1, 2, 0, 1, 1},
            {4, 1, 2, 4, -1, 2, 0, -1, 1}, {6, 0, 4, 5, -1, 0, 0, -1, 3}};
        for (int slot = 0; slot < 5; slot++) {
            for (int what = 0; what <= 8; what++) {
                Due.is("28: ofSlot(" + slot + ", " + what + ")", x.ofSlot(slot, what), want[slot][what]);
            }
        }
        x.block(7, true);
        x.lay(0, 0);
        Due.is("28: laid", x.ofSlot(0, 4), 0);
        Due.is("28: fit", x.ofSlot(1, 5), 1);
        Crosshatch y = new Crosshatch();
        Due.is("28: its own partner", y.ofSlot(2, 7), 2);
        Due.is("28: across", y.ofSlot(0, 7), 5);
        Due.is("28: down", y.ofSlot(3, 7), 1);
        y.bar(3, false, true);
        Due.is("28: of another length", y.ofSlot(4, 0) == 4 && y.ofSlot(4, 7) == -1, true);
        Due.fails("28: no slot", x, PLACE, () -> x.ofSlot(x.ofGrid(4), 0));
        Due.fails("28: slot ahead of what", x, PLACE, () -> x.ofSlot(-1, 9));
        Due.fails("28: what 9", x, ARGUMENT, () -> x.ofSlot(0, 9));
        Due.fails("28: what -1", x, ARGUMENT, () -> x.ofSlot(0, -1));
    }

    private static void promise29() {
        Crosshatch x = some();
        x.ban(1, true);
        x.wish(2, true);
        x.name(0, true);
        x.lay(1, 2);
        int[][] want = {{2, 0, 0, 0, 1, 0, -1}, {3, 1, 1, 0, 0, 2, -1}, {2, 2, 0, 1, 0, 1, 1}};
        for (int word = 0; word < 3; word++) {
            for (int what = 0; what <= 6; what++) {
                Due.is("29: ofWord(" + word + ", " + what + ")", x.ofWord(word, what), want[word][what]);
            }
        }
        Due.fails("29: no word", x, PLACE, () -> x.ofWord(3, 0));
        Due.fails("29: word ahead of what", x, PLACE, () -> x.ofWord(-1, 7));
        Due.fails("29: what 7", x, ARGUMENT, () -> x.ofWord(0, 7));
        Due.fails("29: what -1", x, ARGUMENT, () -> x.ofWord(0, -1));
    }

    private static void promise30() {
        Crosshatch x = Due.with(8, 3, 3, "ab", "hgfed", "abc", "hhhh");
        String[] texts = {"ab", "hgfed", "abc", "hhhh"};
        for (int word = 0; word < 4; word++) {
            Due.is("30: text", x.text(word), texts[word]);
        }
        Due.fails("30: no word", x, PLACE, () -> x.text(4));
        Due.fails("30: word -1", x, PLACE, () -> x.text(-1));
    }

    private static void promise31() {
        Crosshatch x = some();
        Due.is("31: first", x.drawn(0), "a.#..");
        Due.is("31: second", x.drawn(1), "#....");
        x.lay(0, 0);
        Due.is("31: with a word", x.drawn(0), "ab#..");
        Due.fails("31: no row", x, PLACE, () -> x.drawn(2));
        Due.fails("31: row -1", x, PLACE, () -> x.drawn(-1));
        Due.fails("31: row MAX", x, PLACE, () -> x.drawn(Integer.MAX_VALUE));
    }

    private static void promise32() {
        Crosshatch x = some();
        String[] clues = {"1a a_ (2)", "2d __ (2)", "3d __ (2)", "4d __ (2)", "5a ____ (4)"};
        for (int slot = 0; slot < 5; slot++) {
            Due.is("32: clue", x.clue(slot), clues[slot]);
        }
        x.lay(0, 0);
        x.letter(9, 3);
        Due.is("32: with a word", x.clue(0), "1a ab (2)");
        Due.is("32: with a crossing one", x.clue(1), "2d b_ (2)");
        Due.is("32: with a letter", x.clue(4), "5a ___d (4)");
        Due.fails("32: no slot", x, PLACE, () -> x.clue(5));
        Due.fails("32: slot -1", x, PLACE, () -> x.clue(-1));
        Crosshatch y = new Crosshatch();
        y.grid(5, 5);
        for (int row = 0; row < 5; row++) {
            y.bar(5 * row + 1, false, true);
            y.bar(5 + row, true, true);
        }
        // 1 2 3 4 5 in the first row, 6 and 7 in the second, 8 to 12 in the third, 13 and 14, 15 and 16.
        Due.is("32: two digits", y.clue(19), "14a ___ (3)".replace("14", "" + y.ofGrid(8)));
        Due.is("32: greatest number", y.ofGrid(8), 1 + 1 + 1 + 1 + 1 + 2 + 2 + 3 + 2 + 2);
    }

    private static void promise33() {
        Crosshatch x = some();
        x.ban(2, true);
        Due.type(x, "..;");
        x.knock();
        all("33: house", new int[] {x.house(0), x.house(1), x.house(2), x.house(3), x.house(4), x.house(5), x.house(6),
            x.house(7), x.house(8)}, 4, 3, 1, 3, 3, 8, 1, 0, -1);
        x.keep();
        Due.is("33: kept", x.house(7), 1);
        for (int what : new int[] {-1, 9, Integer.MAX_VALUE, Integer.MIN_VALUE}) {
            Due.fails("33: house", x, ARGUMENT, () -> x.house(what));
        }
    }
}

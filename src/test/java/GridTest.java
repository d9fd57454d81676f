/** Promises 1 to 8: a new object, and all that makes grids. */
public final class GridTest {
    private static final Class<IndexOutOfBoundsException> PLACE = IndexOutOfBoundsException.class;
    private static final Class<IllegalArgumentException> ARGUMENT = IllegalArgumentException.class;
    private static final Class<IllegalStateException> STATE = IllegalStateException.class;

    private GridTest() {
    }

    public static void main(String[] args) {
        promise1();
        promise2();
        promise3();
        promise4();
        promise5();
        promise6();
        promise7();
        promise8();
        Due.end();
    }

    private static void promise1() {
        Crosshatch x = new Crosshatch();
        int[] grid = {3, 3, 0, 0, 6, 0, 0, 2, 5, 1, 0};
        for (int what = 0; what < grid.length; what++) {
            Due.is("1: ofGrid(" + what + ")", x.ofGrid(what), grid[what]);
        }
        int[] house = {4, 0, 0, 0, 0, 0, 0, 0, -1};
        for (int what = 0; what < house.length; what++) {
            Due.is("1: house(" + what + ")", x.house(what), house[what]);
        }
        Due.is("1: drawn", Due.drawn(x), "...;...;...;");
        Due.is("1: sound", x.isSound(), true);
    }

    private static void promise2() {
        Crosshatch x = new Crosshatch();
        for (int wide = 2; wide <= 5; wide++) {
            for (int high = 2; high <= 5; high++) {
                Due.is("2: grid", x.grid(wide, high), wide * high);
                Due.is("2: slots", x.ofGrid(4), wide + high);
            }
        }
        Crosshatch y = Due.with(2, 3, 2, "ab");
        y.shortest(3);
        y.block(0, true);
        y.bar(1, false, true);
        y.check(5, true);
        y.letter(4, 1);
        y.lay(0, 0);
        Due.is("2: laid", y.ofGrid(6), 1);
        Due.is("2: grid(3, 2)", y.grid(3, 2), 6);
        int[] grid = {3, 2, 0, 0, 5, 0, 0, 3};
        for (int what = 0; what < grid.length; what++) {
            Due.is("2: ofGrid(" + what + ")", y.ofGrid(what), grid[what]);
        }
        Due.is("2: checked", y.ofCell(5, 6), 0);
        Due.is("2: laid in", y.ofWord(0, 6), -1);
        Due.is("2: words stay", y.house(1), 1);
        int[][] wrong = {{1, 3}, {3, 1}, {6, 2}, {2, 6}, {0, 0}, {-3, -3}, {Integer.MAX_VALUE, 2},
            {2, Integer.MIN_VALUE}};
        for (int[] sides : wrong) {
            Due.fails("2: grid", y, ARGUMENT, () -> y.grid(sides[0], sides[1]));
        }
    }

    private static void promise3() {
        Crosshatch x = new Crosshatch();
        Due.is("3: in the middle", x.block(4, true), 4);
        Due.is("3: in the corner", x.block(0, true), 4);
        Due.is("3: again", x.block(0, true), 4);
        Due.is("3: white again", x.block(0, false), 4);
        Due.is("3: row of three", x.block(4, false), 6);
        Due.is("3: changes", x.house(5), 5);
        x.letter(1, 2);
        Due.is("3: white stays white", x.block(1, false), 6);
        Due.is("3: with its letter", x.ofCell(1, 2), 2);
        x.block(1, true);
        Due.is("3: a block has none", x.ofCell(1, 2), -1);
        x.block(1, false);
        Due.is("3: it is gone", x.ofCell(1, 1), -1);
        Due.word(x, "abc", 1);
        x.lay(0, 0);
        x.letter(8, 1);
        x.check(8, true);
        x.bar(0, false, true);
        x.bar(0, false, false);
        x.lay(0, 0);
        x.block(7, false);
        Due.is("3: words are taken back", x.ofGrid(6), 0);
        Due.is("3: told letters stay", x.ofCell(8, 2), 1);
        x.block(8, true);
        Due.is("3: a block may be checked", x.ofCell(8, 6), 1);
        Due.fails("3: block(9)", x, PLACE, () -> x.block(9, true));
        Due.fails("3: block(-1)", x, PLACE, () -> x.block(-1, false));
        Due.fails("3: block(MAX)", x, PLACE, () -> x.block(Integer.MAX_VALUE, true));
        Due.fails("3: block(MIN)", x, PLACE, () -> x.block(Integer.MIN_VALUE, true));
    }

    private static void promise4() {
        Crosshatch x = new Crosshatch();
        Due.is("4: right of 0", x.bar(0, false, true), 6);
        Due.is("4: slot 1 begins behind it", x.ofSlot(1, 0), 1);
        Due.is("4: two long", x.ofSlot(1, 2), 2);
        Due.is("4: right of 1", x.bar(1, false, true), 5);
        Due.is("4: below 4", x.bar(4, true, true), 5);
        Due.is("4: three", x.ofGrid(3), 3);
        Due.is("4: again", x.bar(4, true, true), 5);
        Due.is("4: still three", x.ofGrid(3), 3);
        Due.is("4: away", x.bar(4, true, false), 5);
        Due.is("4: away again", x.bar(4, true, false), 5);
        Due.is("4: two", x.ofGrid(3), 2);
        x.block(0, true);
        Due.is("4: bars stay at blocks", x.ofGrid(3), 2);
        Due.is("4: fault 2", x.ofGrid(10) & 4, 4);
        Crosshatch y = Due.with(3, 3, 3, "abc");
        y.lay(0, 0);
        y.bar(0, true, false);
        Due.is("4: words are taken back", y.ofGrid(6), 0);
        y.bar(0, false, true);
        Due.is("4: without its partner", y.ofGrid(10), 4);
        y.bar(7, false, true);
        Due.is("4: with its partner", y.ofGrid(10), 0);
        y.bar(1, true, true);
        y.bar(4, true, true);
        Due.is("4: below, with its partner", y.ofGrid(10), 0);
        Due.fails("4: right edge", y, STATE, () -> y.bar(2, false, true));
        Due.fails("4: lower edge", y, STATE, () -> y.bar(6, true, false));
        Due.fails("4: last cell", y, STATE, () -> y.bar(8, false, true));
        Due.fails("4: no cell", y, PLACE, () -> y.bar(9, false, true));
        Due.fails("4: no cell", y, PLACE, () -> y.bar(-1, true, true));
        // Two parts, with bars alone.
        Crosshatch z = new Crosshatch();
        z.grid(2, 2);
        z.bar(0, true, true);
        Due.is("4: one part", z.ofGrid(9), 1);
        z.bar(1, true, true);
        Due.is("4: two parts", z.ofGrid(9), 2);
        Due.is("4: fault 0", z.ofGrid(10), 1);
    }

    private static void promise5() {
        Crosshatch x = new Crosshatch();
        Due.is("5: first", x.check(4, true), false);
        Due.is("5: again", x.check(4, true), true);
        Due.is("5: told", x.ofCell(4, 6), 1);
        Due.is("5: in two slots", x.ofGrid(10), 0);
        x.block(4, true);
        Due.is("5: a block is in none", x.ofGrid(10), 8);
        Due.is("5: no longer", x.check(4, false), true);
        Due.is("5: was not", x.check(4, false), false);
        Due.is("5: no fault", x.ofGrid(10), 0);
        x.check(1, true);
        Due.is("5: in one slot", x.ofGrid(10), 8);
        Due.fails("5: check(9)", x, PLACE, () -> x.check(9, true));
        Due.fails("5: check(-1)", x, PLACE, () -> x.check(-1, true));
    }

    private static void promise6() {
        Crosshatch x = new Crosshatch();
        Due.is("6: first", x.shortest(3), 2);
        Due.is("6: then", x.shortest(5), 3);
        Due.is("6: fault 1", x.ofGrid(10), 2);
        Due.is("6: back", x.shortest(2), 5);
        Due.is("6: no fault", x.ofGrid(10), 0);
        for (int least : new int[] {1, 6, 0, -2, Integer.MAX_VALUE, Integer.MIN_VALUE}) {
            Due.fails("6: shortest", x, ARGUMENT, () -> x.shortest(least));
        }
    }

    private static void promise7() {
        Crosshatch x = Due.with(4, 3, 3, "abc");
        Due.is("7: first", x.letter(0, 0), -1);
        Due.is("7: another", x.letter(0, 3), 0);
        Due.is("7: there", x.ofCell(0, 1), 3);
        Due.is("7: none", x.letter(0, -1), 3);
        Due.is("7: none again", x.letter(0, -1), -1);
        x.lay(0, 0);
        Due.is("7: the word's own", x.letter(1, 1), -1);
        Due.is("7: told and laid", x.ofGrid(5), 1);
        Due.fails("7: another than the word's", x, STATE, () -> x.letter(1, 2));
        Due.fails("7: another than the word's", x, STATE, () -> x.letter(0, 2));
        Due.is("7: away", x.letter(1, -1), 1);
        Due.is("7: still there", x.ofCell(1, 1), 1);
        Due.is("7: not told", x.ofCell(1, 2), -1);
        x.block(8, true);
        Due.fails("7: block", x, STATE, () -> x.letter(8, 0));
        Due.fails("7: block, none", x, STATE, () -> x.letter(8, -1));
        Due.fails("7: argument ahead of state", x, ARGUMENT, () -> x.letter(8, 4));
        Due.fails("7: above the alphabet", x, ARGUMENT, () -> x.letter(0, 4));
        Due.fails("7: below none", x, ARGUMENT, () -> x.letter(0, -2));
        Due.fails("7: cell ahead of argument", x, PLACE, () -> x.letter(9, 9));
        Due.fails("7: cell -1", x, PLACE, () -> x.letter(-1, 0));
    }

    private static void promise8() {
        Crosshatch x = new Crosshatch();
        int[] cells = {0, 1, 2, 3, 4};
        for (int cell : cells) {
            Due.is("8: blocks()", x.blocks(), cell);
            Due.is("8: sound", x.ofGrid(10), 0);
            Due.is("8: partner", x.ofCell(8 - cell, 0), 1);
        }
        Due.is("8: nothing is white", x.blocks(), -9);
        Due.is("8: that is no change", x.house(5), 5);
        Due.is("8: no parts", x.ofGrid(9), 0);
        Crosshatch y = Due.with(2, 3, 3, "ab");
        y.letter(8, 0);
        Due.is("8: a letter is in the partner of 0", y.blocks(), 1);
        y.block(7, false);
        Due.is("8: the partner is one already", y.blocks(), 7);
        Due.is("8: both are then", Due.drawn(y), ".#.;...;.#a;");
        y.bar(3, false, true);
        Due.is("8: never sound", y.blocks(), -9);
        Crosshatch z = Due.with(2, 3, 3, "aaa", "bbb");
        z.lay(0, 0);
        Due.is("8: laid letters, too", z.blocks(), 3);
        Due.is("8: words are taken back", z.ofGrid(6), 0);
        z.undo();
        Due.is("8: laid again", z.ofGrid(6), 1);
        z.lay(4, 1);
        Due.is("8: letters everywhere, or in the partner", z.blocks(), -9);
        Crosshatch c = new Crosshatch();
        c.check(0, true);
        c.check(1, true);
        c.check(2, true);
        Due.is("8: checked cells stay in two slots", c.blocks(), -9);
        c.check(1, false);
        Due.is("8: its own partner", c.blocks(), 4);
        Due.is("8: one block", c.ofGrid(2), 1);
    }
}

/** The edges of part 1 of the description (grids) and of promises 1 to 8, a sentence each. */
public final class GridEdgeTest {
    private GridEdgeTest() {
    }

    public static void main(String[] args) {
        cellsByRows();
        besideAndBelow();
        twoCellsAtLeast();
        notLonger();
        slotsByFirstCell();
        numbersOfCells();
        crossings();
        partnersOfCells();
        partnersOfBars();
        partnersOfSlots();
        parts();
        faultOfParts();
        faultOfLength();
        faultOfTurn();
        faultOfChecked();
        faultsTogether();
        newGridKeeps();
        takesWordsBack();
        takesNoWordBack();
        blockAndLetter();
        barAndBlock();
        checkOfAny();
        letterBefore();
        blocksSmallest();
        blocksLetters();
        blocksPartner();
        blocksSound();
        Due.end();
    }

    /** A grid drawn with ".", "#" and letters, of the alphabet of 4. */
    static Crosshatch drawn(String... rows) {
        Crosshatch made = new Crosshatch();
        Due.type(made, String.join(";", rows) + ";");
        made.read();
        made.wipe();
        return made;
    }

    private static void slots(String call, Crosshatch x, int... firstAndLength) {
        Due.is(call + ": slots", x.ofGrid(4), firstAndLength.length / 2);
        for (int s = 0; s < firstAndLength.length / 2 && s < x.ofGrid(4); s++) {
            Due.is(call + ": first of " + s, x.ofSlot(s, 0), firstAndLength[2 * s]);
            Due.is(call + ": length of " + s, x.ofSlot(s, 2), Math.abs(firstAndLength[2 * s + 1]));
            Due.is(call + ": down " + s, x.ofSlot(s, 1), firstAndLength[2 * s + 1] < 0 ? 1 : 0);
        }
    }

    // "its CELLS are numbered from 0, row by row from the top, each row from the left"
    private static void cellsByRows() {
        Crosshatch x = drawn("....", "....", "....");
        x.letter(0, 0);
        x.letter(3, 1);
        x.letter(4, 2);
        x.letter(11, 3);
        Due.is("cells by rows", Due.drawn(x), "a..b;c...;...d;");
        Crosshatch y = drawn("..", "..", "..", "..", "..");
        y.letter(1, 0);
        y.letter(2, 1);
        y.letter(9, 2);
        Due.is("cells by rows", Due.drawn(y), ".a;b.;..;..;.c;");
    }

    // "side by side, or one below the other": the end of a row and the begin of the next one are not.
    private static void besideAndBelow() {
        Crosshatch x = drawn("##.", ".##");
        slots("row's end and next begin", x);
        Due.is("they do not hang together", x.ofGrid(9), 2);
        Crosshatch y = drawn("#.", ".#");
        slots("corners alone", y);
        Due.is("nor do corners", y.ofGrid(9), 2);
        slots("beside", drawn("..", "##"), 0, 2);
        slots("below", drawn("#.", "#."), 1, -2);
    }

    // "a row of two or more white CELLS"
    private static void twoCellsAtLeast() {
        slots("one", drawn(".#", "##"));
        slots("one between blocks", drawn("#.#", "#..", "###"), 1, -2, 4, 2);
        slots("two", drawn("..#", "###"), 0, 2);
        slots("five", drawn(".....", "#####"), 0, 5);
        Crosshatch x = drawn("..", "##");
        x.bar(0, false, true);
        slots("two ones with a bar between", x);
    }

    // "without a BAR between two of them, that can not be made longer"
    private static void notLonger() {
        Crosshatch x = drawn(".....", "#####");
        x.bar(1, false, true);
        slots("two and three", x, 0, 2, 2, 3);
        x.bar(3, false, true);
        slots("two and two", x, 0, 2, 2, 2);
        x.bar(2, false, true);
        slots("two alone", x, 0, 2);
        x.bar(1, false, false);
        slots("three", x, 0, 3);
        Crosshatch y = drawn(".#", ".#", ".#", ".#", ".#");
        slots("down", y, 0, -5);
        y.bar(4, true, true);
        slots("three and two down", y, 0, -3, 6, -2);
        Crosshatch z = drawn("..", "..");
        z.bar(0, true, true);
        slots("a bar below does not part a row", z, 0, 2, 1, -2, 2, 2);
    }

    // "numbered from 0: by the number of their first CELL, of the same one ACROSS ahead of DOWN"
    private static void slotsByFirstCell() {
        slots("all white", new Crosshatch(), 0, 3, 0, -3, 1, -3, 2, -3, 3, 3, 6, 3);
        slots("down first, if it begins first", drawn("#.", ".."), 1, -2, 2, 2);
        slots("a row behind a column of the row above", drawn(".#.", "...", ".#."), 0, -3, 2, -3, 3, 3);
    }

    // "A CELL with which a SLOT begins has a NUMBER: these CELLS by rising numbers have 1, 2, and so on"
    private static void numbersOfCells() {
        Crosshatch x = drawn("#.#", "...", "#..");
        int[] want = {0, 1, 0, 2, 0, 3, 0, 4, 0};
        slots("numbers", x, 1, -3, 3, 3, 5, -2, 7, 2);
        for (int cell = 0; cell < 9; cell++) {
            Due.is("number of cell " + cell, x.ofCell(cell, 3), want[cell]);
        }
        for (int slot = 0; slot < 4; slot++) {
            Due.is("number of slot " + slot, x.ofSlot(slot, 3), slot + 1);
        }
        Due.is("greatest", x.ofGrid(8), 4);
        String[] clues = {"1a ___ (3)", "1d ___ (3)", "2d ___ (3)", "3d ___ (3)", "4a ___ (3)", "5a ___ (3)"};
        for (int slot = 0; slot < 6; slot++) {
            Due.is("32: clue of slot " + slot, new Crosshatch().clue(slot), clues[slot]);
        }
        Crosshatch y = drawn("..", "..");
        Due.is("the same for both", y.ofSlot(0, 3) == 1 && y.ofSlot(1, 3) == 1, true);
        Due.is("then the next one", y.ofSlot(2, 3), 2);
        Due.is("0 without", drawn(".#", "##").ofGrid(8), 0);
        Due.is("0 without", drawn(".#", "##").ofCell(0, 3), 0);
    }

    // "Two SLOTS CROSS in a CELL that both have."
    private static void crossings() {
        Crosshatch x = drawn("...", "##.", "##.");
        Due.is("in the last cell", x.ofSlot(0, 8), 1);
        Due.is("in the first one", x.ofSlot(1, 8), 1);
        x.bar(2, true, true);
        slots("parted", x, 0, 3, 5, -2);
        Due.is("none", x.ofSlot(0, 8) + x.ofSlot(1, 8), 0);
        Due.is("all five", drawn(".....", ".....").ofSlot(0, 8), 5);
    }

    // "PARTNER of a CELL c is CELLS - 1 - c"
    private static void partnersOfCells() {
        for (int[] size : new int[][] {{2, 2}, {3, 3}, {4, 3}, {3, 4}, {5, 5}, {2, 5}}) {
            int cells = size[0] * size[1];
            for (int cell = 0; cell < cells; cell++) {
                Crosshatch x = new Crosshatch();
                x.grid(size[0], size[1]);
                x.block(cell, true);
                boolean isOwn = cell == cells - 1 - cell;
                Due.is("alone " + cell + " of " + cells, x.ofGrid(10) & 4, isOwn ? 0 : 4);
                x.block(cells - 1 - cell, true);
                Due.is("with its partner " + cell + " of " + cells, x.ofGrid(10) & 4, 0);
            }
        }
    }

    // "of a BAR that between the PARTNERS of both CELLS": one in the middle may be its own.
    private static void partnersOfBars() {
        for (int[] size : new int[][] {{2, 2}, {3, 3}, {4, 3}, {3, 4}, {5, 2}}) {
            int wide = size[0];
            int cells = wide * size[1];
            for (int cell = 0; cell < cells; cell++) {
                for (int by : new int[] {1, wide}) {
                    if (by == 1 ? cell % wide < wide - 1 : cell + wide < cells) {
                        int partner = cells - 1 - cell - by;
                        Crosshatch x = new Crosshatch();
                        x.grid(wide, size[1]);
                        x.bar(cell, by == wide, true);
                        Due.is("bar at " + cell + " alone", x.ofGrid(10) & 4, partner == cell ? 0 : 4);
                        x.bar(partner, by == wide, true);
                        Due.is("bar at " + cell + " with its partner", x.ofGrid(10) & 4, 0);
                        Due.is("bars", x.ofGrid(3), partner == cell ? 1 : 2);
                    }
                }
            }
        }
        Crosshatch y = new Crosshatch();
        y.bar(0, false, true);
        y.bar(8 - 3, true, true);
        Due.is("one on the right is none below", y.ofGrid(10) & 4, 4);
    }

    // "of a SLOT the SLOT of the same direction that has the PARTNERS of its CELLS (NONE without one; it may be itself)"
    private static void partnersOfSlots() {
        int[] want = {5, 3, 2, 1, 4, 0};
        for (int slot = 0; slot < 6; slot++) {
            Due.is("partner of " + slot, new Crosshatch().ofSlot(slot, 7), want[slot]);
        }
        // The row above has three cells, that below two.
        Crosshatch x = drawn("...", "...", "#..");
        Due.is("of another length", x.ofSlot(0, 7), -1);
        slots("of another length", x, 0, 3, 0, -2, 1, -3, 2, -3, 3, 3, 7, 2);
        Due.is("of another length, too", x.ofSlot(5, 7), -1);
        Due.is("down", x.ofSlot(1, 7), -1);
        Due.is("in the middle, down", x.ofSlot(2, 7), 2);
        Due.is("on the right, down", x.ofSlot(3, 7), -1);
        Due.is("in the middle, across", x.ofSlot(4, 7), 4);
        // Both rows have a slot of two cells, but not turned round.
        Crosshatch y = drawn("..#", "..#");
        Due.is("as long, elsewhere", y.ofSlot(0, 7), -1);
        Crosshatch z = drawn("..#", "#..");
        slots("across and down", z, 0, 2, 1, -2, 4, 2);
        Due.is("turned round", z.ofSlot(0, 7), 2);
        Due.is("turned round", z.ofSlot(2, 7), 0);
        Due.is("the one down is its own", z.ofSlot(1, 7), 1);
        // One across and one down: the partners of its cells are a slot of the other direction.
        Crosshatch w = drawn("..", "##");
        Due.is("across alone", w.ofSlot(0, 7), -1);
        Crosshatch v = drawn(".....", "#####");
        v.bar(1, false, true);
        Due.is("its partners are blocks", v.ofSlot(0, 7), -1);
        // The partners of its cells are only a part of a longer slot.
        Crosshatch u = drawn(".....", ".....");
        u.bar(1, false, true);
        slots("a part of a longer one", u, 0, 2, 0, -2, 1, -2, 2, 3, 2, -2, 3, -2, 4, -2, 5, 5);
        Due.is("two of five, at the end", u.ofSlot(0, 7), -1);
        Due.is("three of five, at the begin", u.ofSlot(3, 7), -1);
        Due.is("five", u.ofSlot(7, 7), -1);
    }

    // "PARTS are told by how many there are (0 without white CELLS)"
    private static void parts() {
        Due.is("no white cell", drawn("##", "##").ofGrid(9), 0);
        Due.is("no white cell is no fault", drawn("##", "##").ofGrid(10), 0);
        Due.is("one white cell", drawn(".#", "##").ofGrid(9), 1);
        Due.is("all white", drawn(".....", ".....", ".....", ".....", ".....").ofGrid(9), 1);
        Due.is("thirteen", drawn(".#.#.", "#.#.#", ".#.#.", "#.#.#", ".#.#.").ofGrid(9), 13);
        Due.is("twelve", drawn("#.#.#", ".#.#.", "#.#.#", ".#.#.", "#.#.#").ofGrid(9), 12);
        Due.is("a long way", drawn(".....", "####.", ".....", ".####", ".....").ofGrid(9), 1);
        Due.is("from below and from the right", drawn("###..", "###.#", "....#", ".####", "...##").ofGrid(9), 1);
        Due.is("cut", drawn("...", "###", "...").ofGrid(9), 2);
        Crosshatch x = new Crosshatch();
        x.bar(3, false, true);
        Due.is("a bar to go round", x.ofGrid(9), 1);
        x.bar(0, true, true);
        x.bar(3, true, true);
        Due.is("bars all round a cell", x.ofGrid(9), 2);
    }

    // "0 there are 2 PARTS or more"
    private static void faultOfParts() {
        Due.is("no part", drawn("##", "##").ofGrid(10) & 1, 0);
        Due.is("one part", drawn("..", "..").ofGrid(10) & 1, 0);
        Due.is("two parts", drawn("...", "###", "...").ofGrid(10) & 1, 1);
        Due.is("three parts", drawn(".#.", "###", ".##").ofGrid(10) & 1, 1);
    }

    // "1 some SLOT is shorter than SHORTEST"
    private static void faultOfLength() {
        Crosshatch x = drawn(".....", "##...", "##...");
        int[] lengths = {5, 3, 3, 3, 3, 3};
        for (int s = 0; s < 6; s++) {
            Due.is("length", x.ofSlot(s, 2), lengths[s]);
        }
        for (int least = 2; least <= 5; least++) {
            x.shortest(least);
            Due.is("the shortest has 3, of " + least, x.ofGrid(10) & 2, least > 3 ? 2 : 0);
        }
        Crosshatch y = drawn(".....", "#####");
        y.shortest(5);
        Due.is("cells in no other slot are none", y.ofGrid(10) & 2, 0);
        y.bar(0, false, true);
        Due.is("four", y.ofGrid(10) & 2, 2);
        Crosshatch z = drawn(".#", "##");
        z.shortest(5);
        Due.is("without slots", z.ofGrid(10) & 2, 0);
        // The last slot alone is too short.
        Crosshatch w = drawn("...", "...", "...");
        w.shortest(3);
        w.block(6, true);
        Due.is("the last one", w.ofGrid(10) & 2, 2);
    }

    // "2 some CELL is a BLOCK and its PARTNER not, or some BAR has no BAR as its PARTNER"
    private static void faultOfTurn() {
        Due.is("the last cell alone", drawn("...", "...", "..#").ofGrid(10) & 4, 4);
        Due.is("the first cell alone", drawn("#..", "...", "...").ofGrid(10) & 4, 4);
        Due.is("both", drawn("#..", "...", "..#").ofGrid(10) & 4, 0);
        Due.is("across the other corner", drawn("#..", "...", "#..").ofGrid(10) & 4, 4);
        Due.is("the middle", drawn("...", ".#.", "...").ofGrid(10) & 4, 0);
        Crosshatch x = drawn("...", "...", "...");
        x.bar(7, false, true);
        Due.is("the last bar alone", x.ofGrid(10) & 4, 4);
        x.bar(7, false, false);
        x.bar(5, true, true);
        Due.is("the last one below alone", x.ofGrid(10) & 4, 4);
        x.letter(0, 1);
        x.bar(5, true, false);
        Due.is("letters do not matter", x.ofGrid(10) & 4, 0);
        x.check(0, true);
        Due.is("nor do checked cells", x.ofGrid(10) & 4, 0);
    }

    // "3 some CHECKED CELL is not in two SLOTS"
    private static void faultOfChecked() {
        Crosshatch x = drawn("...", ".#.", "...");
        for (int cell = 0; cell < 9; cell++) {
            x.check(cell, true);
            boolean isCorner = cell == 0 || cell == 2 || cell == 6 || cell == 8;
            Due.is("cell " + cell, x.ofGrid(10), isCorner ? 0 : 8);
            x.check(cell, false);
        }
        Due.is("none is", x.ofGrid(10), 0);
        Crosshatch y = drawn(".##", "###", "###");
        y.check(0, true);
        Due.is("in no slot", y.ofGrid(10) & 8, 8);
        Crosshatch z = new Crosshatch();
        for (int cell = 0; cell < 9; cell++) {
            z.check(cell, true);
        }
        Due.is("all in two", z.ofGrid(10), 0);
        z.bar(7, false, true);
        Due.is("the last one down alone", z.ofGrid(10) & 8, 8);
    }

    // Each of the faults comes alone, and all come together.
    private static void faultsTogether() {
        Crosshatch x = drawn("..#", "#..", "..#");
        x.check(0, true);
        Due.is("blocks", x.ofGrid(10), 4 + 8);
        x.shortest(3);
        Due.is("too short", x.ofGrid(10), 2 + 4 + 8);
        x.bar(1, true, true);
        x.bar(4, true, true);
        Due.is("all", x.ofGrid(10), 1 + 2 + 4 + 8);
        x.grid(3, 3);
        Due.is("none", x.ofGrid(10), 0);
        x.bar(2, true, true);
        x.bar(3, true, true);
        Due.is("too short alone", x.ofGrid(10), 2);
        Due.is("parts alone", drawn("...", "###", "...").ofGrid(10), 1);
    }

    // Promise 2: "all white, without BARS, letters, CHECKED CELLS; SHORTEST stays"
    private static void newGridKeeps() {
        for (int[] size : new int[][] {{3, 3}, {5, 5}, {2, 2}}) {
            Crosshatch x = Due.with(3, 3, 3, "abc", "ba");
            x.shortest(4);
            x.ban(1, true);
            x.wish(1, true);
            x.name(0, true);
            for (int cell = 0; cell < 9; cell++) {
                x.letter(cell, cell % 3);
                x.check(cell, true);
                x.block(cell, cell % 2 == 0);
                if (cell < 6) {
                    x.bar(cell, true, true);
                }
                if (cell % 3 < 2) {
                    x.bar(cell, false, true);
                }
            }
            Due.is("2: cells", x.grid(size[0], size[1]), size[0] * size[1]);
            for (int cell = 0; cell < size[0] * size[1]; cell++) {
                Due.is("2: white", x.ofCell(cell, 0), 0);
                Due.is("2: no letter", x.ofCell(cell, 2), -1);
                Due.is("2: not checked", x.ofCell(cell, 6), 0);
            }
            Due.is("2: no bars", x.ofGrid(3), 0);
            Due.is("2: slots", x.ofGrid(4), size[0] + size[1]);
            Due.is("2: shortest stays", x.ofGrid(7), 4);
            Due.is("2: the alphabet stays", x.house(0), 3);
            Due.is("2: words stay", x.text(0) + x.text(1), "abcba");
            Due.is("2: marks stay", x.ofWord(1, 2) + x.ofWord(1, 3) + x.ofWord(0, 4), 3);
        }
    }

    private interface Made {
        void on(Crosshatch x);
    }

    /** "abc" and "aba" laid above and on the left of ".#." in the middle. */
    private static Crosshatch laid() {
        Crosshatch made = Due.with(3, 3, 3, "abc", "aba", "cba", "aca", "acc", "caa");
        made.block(4, true);
        made.bar(5, true, true);
        made.lay(0, 0);
        made.lay(1, 1);
        Due.type(made, "...;.#.;...;");
        return made;
    }

    // "takes all WORDS back that are LAID (also if nothing is other by it)"
    private static void takesWordsBack() {
        Made[] changes = {x -> x.grid(3, 3), x -> x.grid(4, 3), x -> x.block(4, true), x -> x.block(0, false),
            x -> x.block(8, true), x -> x.block(4, false), x -> x.bar(5, true, true), x -> x.bar(5, true, false),
            x -> x.bar(0, true, false), x -> x.bar(0, false, false), x -> x.bar(6, false, true), Crosshatch::read};
        for (int k = 0; k < changes.length; k++) {
            Crosshatch x = laid();
            Due.is("laid", x.ofGrid(6), 2);
            changes[k].on(x);
            Due.is("taken back by change " + k, x.ofGrid(6), 0);
            Due.is("no letter is there by change " + k, Due.drawn(x).indexOf('a'), -1);
            Due.is("the word is laid nowhere by change " + k, x.ofWord(0, 6), -1);
            x.undo();
            Due.is("laid again behind change " + k, x.ofGrid(6), 2);
        }
        Crosshatch y = Due.with(2, 3, 3, "aba");
        y.lay(0, 0);
        Due.is("blocks()", y.blocks(), 3);
        Due.is("taken back by blocks()", y.ofGrid(6), 0);
    }

    // Nothing else does so; what tells -9 or -7 does not, either.
    private static void takesNoWordBack() {
        Made[] changes = {x -> x.check(4, true), x -> x.shortest(4), x -> x.letter(8, 1), x -> x.letter(0, 0),
            x -> x.letter(0, -1), x -> Due.word(x, "bbb", 1), x -> x.ban(0, true), x -> x.wish(0, true),
            x -> x.name(0, true), x -> x.lay(3, 3), Crosshatch::step, Crosshatch::keep, Crosshatch::wipe,
            Crosshatch::knock, x -> x.walk(0), Crosshatch::blocks, x -> x.theme(0, 1), x -> x.type(10)};
        for (int k = 0; k < changes.length; k++) {
            Crosshatch x = laid();
            changes[k].on(x);
            Due.is("stays laid behind change " + k, x.ofSlot(0, 4), 0);
            Due.is("stays laid behind change " + k, x.ofSlot(1, 4), 1);
        }
        Crosshatch y = laid();
        y.type(9);
        Due.is("a fault", y.read(), -7);
        Due.is("stays laid behind -7", y.ofGrid(6), 2);
        Due.is("blocks() can not be done", y.blocks(), -9);
        Due.is("stays laid behind -9", y.ofGrid(6), 2);
    }

    // Promise 3: "without a letter then", "a white one keeps its letter"
    private static void blockAndLetter() {
        Crosshatch x = drawn("ab", "cd");
        x.block(1, false);
        Due.is("3: white with its letter", Due.drawn(x), "ab;cd;");
        x.block(1, true);
        Due.is("3: a block without", x.ofCell(1, 2), -1);
        Due.is("3: nor is one there", x.ofCell(1, 1), -1);
        Due.is("3: letters that are told", x.ofGrid(5), 3);
        x.block(1, true);
        x.block(1, false);
        Due.is("3: white again, without", Due.drawn(x), "a.;cd;");
        x.letter(1, 3);
        Due.is("3: and may have one again", Due.drawn(x), "ad;cd;");
    }

    // Bars stay beside a block, and a block stays checked: nothing says that they go.
    private static void barAndBlock() {
        Crosshatch x = drawn("...", "...", "...");
        x.bar(4, false, true);
        x.check(4, true);
        x.block(4, true);
        Due.is("3: the bar stays", x.ofGrid(3), 1);
        Due.is("3: checked stays", x.ofCell(4, 6), 1);
        x.block(4, false);
        slots("3: white again", x, 0, 3, 0, -3, 1, -3, 2, -3, 3, 2, 6, 3);
        Due.is("4: away, beside a block", x.block(5, true) + x.bar(4, false, false), x.ofGrid(4) * 2);
        Due.is("4: no bar", x.ofGrid(3), 0);
    }

    // "any CELL may be CHECKED": a block, too
    private static void checkOfAny() {
        Crosshatch x = GridEdgeTest.drawn("#.", "..");
        for (int cell = 0; cell < 4; cell++) {
            Due.is("5: was not", x.check(cell, true), false);
            Due.is("5: was", x.check(cell, true), true);
            Due.is("27: checked", x.ofCell(cell, 6), 1);
            Due.is("26: only the last one is in two slots", x.ofGrid(10) & 8, cell == 3 ? 0 : 8);
            Due.is("5: was", x.check(cell, false), true);
            Due.is("5: was not", x.check(cell, false), false);
            Due.is("27: not checked", x.ofCell(cell, 6), 0);
        }
    }

    // Promise 7: "that which was TOLD before, or NONE", also if a word has a letter there
    private static void letterBefore() {
        Crosshatch x = laid();
        Due.is("7: there, but not told", x.letter(0, 0), -1);
        Due.is("7: told now", x.letter(0, 0), 0);
        Due.is("7: not told any more", x.letter(0, -1), 0);
        Due.is("7: there by the words", x.ofCell(0, 1), 0);
        Due.is("7: free", x.letter(8, 2), -1);
        Due.is("7: another", x.letter(8, 1), 2);
        Due.is("7: none", x.letter(8, -1), 1);
        Due.is("7: none again", x.letter(8, -1), -1);
    }

    // Promise 8: "The smallest white CELL .."
    private static void blocksSmallest() {
        Due.is("8: the first", new Crosshatch().blocks(), 0);
        Crosshatch x = drawn("#..", "...", "..#");
        Due.is("8: a block is passed over", x.blocks(), 1);
        Due.is("8: drawn", Due.drawn(x), "##.;...;.##;");
        Crosshatch y = drawn("..", "..");
        Due.is("8: two parts then", y.blocks(), -9);
        Due.is("8: nothing is other", Due.drawn(y), "..;..;");
        Due.is("8: no change", y.house(5), 1);
        Crosshatch z = drawn("###", "#.#", "###");
        Due.is("8: the middle is its own partner", z.blocks(), 4);
        Due.is("8: one more block", z.ofGrid(2), 9);
        Due.is("8: no white cell", z.blocks(), -9);
    }

    // "in which no letter is THERE, nor in its PARTNER"
    private static void blocksLetters() {
        Due.is("8: a letter in the cell", drawn("a..", "...", "...").blocks(), 1);
        Due.is("8: a letter in the partner", drawn("...", "...", "..a").blocks(), 1);
        Due.is("8: letters in both", drawn("a..", "...", "..a").blocks(), 1);
        Due.is("8: the middle alone is free", drawn("aaa", "a..", "...").blocks(), 4);
        Due.is("8: no cell is free", drawn("aaa", "aa.", "...").blocks(), -9);
        Crosshatch x = Due.with(2, 3, 3, "aba");
        x.lay(5, 0);
        Due.is("8: a word that is laid", x.blocks(), 3);
        Due.is("8: drawn", Due.drawn(x), "...;#.#;...;");
        Crosshatch y = Due.with(2, 3, 3, "aba");
        y.lay(1, 0);
        Due.is("8: a word that is laid down", y.blocks(), 1);
    }

    // "the PARTNER may be one already"
    private static void blocksPartner() {
        Crosshatch x = drawn("...", "...", "..#");
        Due.is("8: the partner of the first", x.blocks(), 0);
        Due.is("8: both then", Due.drawn(x), "#..;...;..#;");
        Crosshatch y = drawn("#..", "...", "...");
        Due.is("8: the last one, of which the partner is one", y.blocks(), 8);
        Due.is("8: both then", Due.drawn(y), "#..;...;..#;");
        Crosshatch z = drawn("##.", "...", "...");
        Due.is("8: two partners are missing", z.blocks(), -9);
    }

    // "with which, if both are BLOCKS, the GRID is SOUND"
    private static void blocksSound() {
        Due.is("8: a corner leaves slots of two", new Crosshatch().blocks(), 0);
        Crosshatch x = new Crosshatch();
        x.shortest(3);
        Due.is("8: slots of three", x.blocks(), 1);
        Due.is("8: drawn", Due.drawn(x), ".#.;...;.#.;");
        Due.is("8: more would part the corners", x.blocks(), -9);
        Due.is("8: nothing is other", Due.drawn(x), ".#.;...;.#.;");
    }
}

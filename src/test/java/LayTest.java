/** Promises 14 to 17: laying, taking back, themes and steps of a solver. */
public final class LayTest {
    private static final Class<IndexOutOfBoundsException> PLACE = IndexOutOfBoundsException.class;
    private static final Class<IllegalArgumentException> ARGUMENT = IllegalArgumentException.class;
    private static final Class<IllegalStateException> STATE = IllegalStateException.class;

    private LayTest() {
    }

    public static void main(String[] args) {
        promise14();
        promise15();
        promise16();
        promise17();
        promise17Open();
        Due.end();
    }

    private static Crosshatch ring() {
        Crosshatch made = Due.with(3, 3, 3, "abc", "aba", "cba", "aca", "acc", "caa");
        made.block(4, true);
        return made;
    }

    private static void promise14() {
        Crosshatch x = ring();
        Due.is("14: three", x.lay(0, 0), 3);
        Due.is("14: drawn", Due.drawn(x), "abc;.#.;...;");
        Due.is("14: two", x.lay(1, 1), 2);
        Due.is("14: laid", x.ofGrid(6), 2);
        x.letter(5, 0);
        Due.fails("14: one is laid", x, STATE, () -> x.lay(0, 3));
        Due.fails("14: the same one is laid", x, STATE, () -> x.lay(0, 0));
        Due.fails("14: laid elsewhere", x, STATE, () -> x.lay(3, 1));
        Due.fails("14: another letter", x, STATE, () -> x.lay(2, 4));
        x.ban(5, true);
        Due.fails("14: banned", x, STATE, () -> x.lay(2, 5));
        x.ban(5, false);
        Due.is("14: one", x.lay(2, 5), 1);
        Due.is("14: none is empty", x.lay(3, 3), 1);
        Due.is("14: full", Due.drawn(x), "abc;b#a;aca;");
        Due.fails("14: slot ahead of state", x, PLACE, () -> x.lay(4, 0));
        Due.fails("14: slot -1", x, PLACE, () -> x.lay(-1, 0));
        Due.fails("14: word 6", x, PLACE, () -> x.lay(0, 6));
        Due.fails("14: word -1", x, PLACE, () -> x.lay(0, -1));
        Crosshatch y = Due.with(2, 3, 2, "ab", "aba");
        Due.fails("14: too short", y, STATE, () -> y.lay(0, 0));
        y.letter(0, 0);
        y.letter(1, 1);
        y.letter(2, 0);
        Due.is("14: all told", y.lay(0, 1), 0);
    }

    private static void promise15() {
        Crosshatch x = ring();
        x.lay(0, 0);
        x.lay(1, 1);
        x.letter(1, 1);
        Due.is("15: takes", x.take(0), 0);
        Due.is("15: crossing and told letters stay", Due.drawn(x), "ab.;b#.;a..;");
        Due.is("15: no more", x.ofSlot(0, 4), -1);
        x.ban(1, true);
        Due.is("15: banned", x.take(1), 1);
        Due.is("15: drawn", Due.drawn(x), ".b.;.#.;...;");
        Due.fails("15: none is laid", x, STATE, () -> x.take(0));
        Due.fails("15: slot 4", x, PLACE, () -> x.take(4));
        Due.fails("15: slot -1", x, PLACE, () -> x.take(-1));
    }

    private static void promise16() {
        Crosshatch x = Due.with(2, 3, 3, "aaa", "bbb", "aab", "abb", "aba", "bab");
        Due.is("16: rows", x.theme(0, 1), 0);
        Due.is("16: drawn", Due.drawn(x), "aaa;...;bbb;");
        Due.is("16: first", x.ofSlot(0, 4), 0);
        Due.is("16: second", x.ofSlot(5, 4), 1);
        Due.is("16: columns", x.theme(2, 3), 1);
        Due.is("16: drawn", Due.drawn(x), "aaa;a.b;bbb;");
        int changes = x.house(5);
        Due.is("16: the other slots are their own partners", x.theme(4, 5), -9);
        Due.is("16: laid already", x.theme(0, 1), -9);
        Due.is("16: no change", x.house(5), changes);
        Due.fails("16: twice the same", x, ARGUMENT, () -> x.theme(0, 0));
        Due.fails("16: word ahead of that", x, PLACE, () -> x.theme(6, 6));
        Due.fails("16: first", x, PLACE, () -> x.theme(-1, 0));
        Due.fails("16: second", x, PLACE, () -> x.theme(0, 6));
        Crosshatch y = Due.with(2, 3, 3, "aaa", "bbb");
        y.ban(1, true);
        Due.is("16: banned", y.theme(0, 1), -9);
        y.ban(1, false);
        y.letter(7, 0);
        Due.is("16: the second does not fit at first", y.theme(0, 1), 1);
        Crosshatch z = Due.with(2, 3, 3, "aaa", "bbb");
        z.bar(0, false, true);
        Due.is("16: a slot without a partner is passed over", z.theme(0, 1), 0);
        Due.is("16: which is that", z.clue(0), "1d aaa (3)");
    }

    private static Crosshatch rows() {
        Crosshatch made = Due.with(2, 2, 3, "ab", "bb", "aa");
        for (int cell = 0; cell < 4; cell++) {
            made.bar(cell, true, true);
        }
        made.letter(1, 1);
        made.letter(3, 1);
        return made;
    }

    private static void promise17() {
        // The first two rows take both words with "b" behind, so that the third one has to be "aa".
        Crosshatch x = rows();
        Due.is("17: kind", x.step(), 2);
        Due.is("17: cell 4", x.ofCell(4, 2), 0);
        Due.is("17: kind", x.step(), 2);
        Due.is("17: drawn", Due.drawn(x), ".b;.b;aa;");
        int changes = x.house(5);
        Due.is("17: nothing to be done", x.step(), 0);
        Due.is("17: drawn", Due.drawn(x), ".b;.b;aa;");
        Due.is("17: a change all the same", x.house(5), Math.min(changes + 1, 8));
        Crosshatch y = rows();
        y.ban(0, true);
        Due.is("17: one word is left in each", y.step(), 1);
        Due.is("17: drawn", Due.drawn(y), "bb;.b;..;");
        Crosshatch z = Due.with(3, 2, 2, "ab", "ca", "ac", "ba");
        z.letter(0, 1);
        Due.is("17: the across slot has words left", z.step(), 1);
        Due.is("17: smallest cell", Due.drawn(z), "ba;..;");
    }

    // As above, but with so many words for two more rows that it is open how many fillings there are.
    private static void promise17Open() {
        Crosshatch x = Due.with(8, 2, 5, "ab", "bb", "aa");
        for (int cell = 0; cell < 8; cell++) {
            x.bar(cell, true, true);
        }
        for (int k = 0; k < 27; k++) {
            x.word(2 + k / 7, k % 7 == 0 ? 0 : 1 + k % 7, -2, -2, -2, 1);
        }
        x.letter(1, 1);
        x.letter(3, 1);
        x.letter(4, 0);
        Due.is("17: open", x.fillings(), -8);
        Due.is("17: kind", x.step(), 0);
        x.letter(6, 2);
        x.letter(8, 2);
        Due.is("17: not open", x.fillings(), 2 * 7 * 6);
        Due.is("17: kind", x.step(), 2);
        Due.is("17: cell 5", x.ofCell(5, 2), 0);
    }
}

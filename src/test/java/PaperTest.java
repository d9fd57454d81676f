/** Promises 18 to 25: papers, what is kept, walks, steps back, knocks. */
public final class PaperTest {
    private static final Class<IllegalArgumentException> ARGUMENT = IllegalArgumentException.class;
    private static final Class<IllegalStateException> STATE = IllegalStateException.class;

    private PaperTest() {
    }

    public static void main(String[] args) {
        promise18();
        promise19();
        faults();
        promise20();
        promise21();
        promise22();
        promise23();
        walksEnd();
        promise24();
        undoOfEach();
        promise25();
        Due.end();
    }

    private static void promise18() {
        Crosshatch x = new Crosshatch();
        for (int k = 0; k < 30; k++) {
            Due.is("18: type", x.type(k % 11), k + 1);
        }
        Due.is("18: no change", x.house(5), 0);
        Due.fails("18: 30 stand there", x, STATE, () -> x.type(0));
        Due.fails("18: argument ahead of state", x, ARGUMENT, () -> x.type(11));
        Due.fails("18: -1", x, ARGUMENT, () -> x.type(-1));
        Due.fails("18: MIN", x, ARGUMENT, () -> x.type(Integer.MIN_VALUE));
    }

    private static void promise19() {
        Crosshatch x = new Crosshatch();
        Due.is("19: empty", x.wipe(), 0);
        Due.type(x, "..;");
        Due.is("19: three", x.wipe(), 3);
        Due.is("19: empty then", x.house(3), 0);
        Due.is("19: begins anew", x.type(8), 1);
        Due.is("19: no change", x.house(5), 0);
    }

    private static void faults() {
        String[] papers = {"", ";", ".", ".;", "..", "..;", "..;.", "..;..", "..;..;", "..;.;", "..;...", "..;;",
            ".....", "......", ".....;", ".....;......", "a.;.e;", "e", "d#;#.;", "..;..;..;", "..;..;..;.",
            "..;..;..;..;..;", "..;..;..;..;..;.", "..;..;..;..;..;;", ".....;.....;.....;.....;.....;", "..;..;;",
            "##;##;"};
        int[] faults = {0, 0, 1, 1, 2, 3, 4, 5, -1, 4, 5, 3, 5, 5, 6, 11, 4, 0, -1, -1, 10, -1, 15, 15, -1, 6, -1};
        for (int k = 0; k < papers.length; k++) {
            Crosshatch x = new Crosshatch();
            Due.type(x, papers[k]);
            Due.is("20: fault of " + papers[k], x.house(4), faults[k]);
            int before = x.house(5);
            Due.is("20: read " + papers[k], x.read() == -7, faults[k] != -1);
            Due.is("20: change by " + papers[k], x.house(5) - before, faults[k] == -1 ? 1 : 0);
        }
        Crosshatch y = new Crosshatch();
        Due.type(y, "d.;..;");
        Due.is("20: of the alphabet", y.house(4), -1);
        y.alphabet(3);
        Due.is("20: no longer", y.house(4), 0);
    }

    private static void promise20() {
        Crosshatch x = Due.with(3, 3, 3, "abc");
        x.shortest(3);
        x.bar(4, false, true);
        x.check(3, true);
        x.block(8, true);
        x.letter(7, 0);
        x.lay(0, 0);
        Due.type(x, "a.#.;#c..;....;");
        Due.is("20: slots", x.read(), 6);
        Due.is("20: drawn", Due.drawn(x), "a.#.;#c..;....;");
        int[] grid = {4, 3, 2, 0, 6, 2, 0, 3};
        for (int what = 0; what < grid.length; what++) {
            Due.is("20: ofGrid(" + what + ")", x.ofGrid(what), grid[what]);
        }
        Due.is("20: not checked", x.ofCell(3, 6), 0);
        Due.is("20: the paper stays", x.house(3), 15);
        x.type(10);
        Due.is("20: a fault", x.read(), -7);
        Due.is("20: nothing is other", Due.drawn(x), "a.#.;#c..;....;");
        x.wipe();
        Due.is("20: empty", x.read(), -7);
    }

    private static void promise21() {
        Crosshatch x = new Crosshatch();
        Due.is("21: none at first", x.house(7), 0);
        Due.is("21: cells", x.keep(), 9);
        Due.is("21: kept", x.house(7), 1);
        Due.is("21: no change", x.house(5), 0);
        x.grid(2, 2);
        Due.is("21: not like it", x.compare(2), 0);
        Due.is("21: cells of the new one", x.keep(), 4);
        Due.is("21: like it", x.compare(2), 1);
        x.undo();
        Due.is("21: is not undone", x.compare(2), 0);
        Due.is("21: still kept", x.house(7), 1);
    }

    private static Crosshatch two() {
        return Due.with(3, 2, 2, "ab", "ca", "ac", "ba");
    }

    private static void promise22() {
        Crosshatch x = two();
        Due.is("22: two", x.walk(0), 2);
        Due.is("22: not come yet", x.house(8), -1);
        x.next();
        Due.is("22: come", x.house(8), 0);
        Due.fails("22: three", x, ARGUMENT, () -> x.walk(3));
        Due.fails("22: -1", x, ARGUMENT, () -> x.walk(-1));
        Due.is("22: that one goes on", x.next(), 1);
        Due.is("22: from the second", x.walk(1), 2);
        Due.is("22: not come yet", x.house(8), -1);
        Due.is("22: second", x.next(), 1);
        Due.is("22: from behind the last", x.walk(2), 2);
        Due.is("22: none", x.next(), -1);
        Due.is("22: no change", x.house(5), 6);
        Crosshatch y = Due.with(3, 2, 2);
        Due.is("22: none at all", y.walk(0), 0);
        Due.fails("22: one", y, ARGUMENT, () -> y.walk(1));
        Crosshatch z = manyWords();
        Due.is("22: open", z.walk(100000), -8);
        Due.fails("22: -1, open", z, ARGUMENT, () -> z.walk(-1));
        Due.fails("22: no walk then", z, STATE, z::next);
    }

    private static Crosshatch manyWords() {
        Crosshatch made = Due.with(3, 4, 5, "aa", "ab", "ac", "ba", "bb", "bc", "ca", "cb", "cc");
        for (int y = 0; y < 5; y++) {
            made.bar(4 * y + 1, false, true);
            for (int cell = 4 * y; y < 4 && cell < 4 * y + 4; cell++) {
                made.bar(cell, true, true);
            }
        }
        return made;
    }

    private static void promise23() {
        Crosshatch fresh = new Crosshatch();
        Due.fails("23: no walk at first", fresh, STATE, fresh::next);
        Crosshatch x = two();
        Due.fails("23: no walk", x, STATE, x::next);
        x.walk(0);
        Due.is("23: first", x.next(), 0);
        Due.is("23: second", x.next(), 1);
        Due.is("23: at it", x.house(8), 1);
        Due.is("23: none", x.next(), -1);
        Due.is("23: without a walk", x.house(8), -1);
        Due.fails("23: it is over", x, STATE, x::next);
    }

    private interface Made {
        void on(Crosshatch x);
    }

    private static void walksEnd() {
        Made[] changes = {x -> x.grid(2, 2), x -> x.block(0, false), x -> x.bar(0, true, false),
            x -> x.check(0, false), x -> x.shortest(2), x -> x.letter(0, -1),
            x -> Due.word(x, "cc", 1), x -> x.ban(0, false), x -> x.wish(0, false), x -> x.name(0, false),
            x -> x.lay(0, 0), x -> x.theme(0, 1), Crosshatch::step, Crosshatch::undo};
        for (int k = 0; k < changes.length; k++) {
            Crosshatch x = two();
            x.walk(0);
            x.next();
            changes[k].on(x);
            Due.is("23: at nothing behind change " + k, x.house(8), -1);
            Due.fails("23: no walk behind change " + k, x, STATE, x::next);
        }
        Crosshatch y = two();
        Due.word(y, "cc", 0);
        y.ban(4, true);
        y.walk(0);
        y.next();
        y.keep();
        y.knock();
        y.type(10);
        y.read();
        y.wipe();
        y.blocks();
        y.theme(0, 4);
        y.isSound();
        y.digest();
        y.search(0);
        Due.is("23: blocks() did nothing", y.ofGrid(2), 0);
        Due.is("23: theme() did nothing", y.ofGrid(6), 0);
        Due.is("23: still there", y.house(8), 0);
        Due.is("23: still on", y.next(), 1);
        Crosshatch z = two();
        Due.type(z, "..;..;");
        z.walk(0);
        z.read();
        Due.fails("23: read() is a change", z, STATE, z::next);
        Crosshatch b = new Crosshatch();
        b.walk(0);
        b.blocks();
        Due.fails("23: blocks() is a change", b, STATE, b::next);
        Crosshatch a = new Crosshatch();
        a.walk(0);
        a.alphabet(3);
        Due.fails("23: alphabet() is a change", a, STATE, a::next);
    }

    private static void promise24() {
        Crosshatch x = new Crosshatch();
        Due.fails("24: nothing yet", x, STATE, x::undo);
        for (int k = 0; k < 12; k++) {
            Due.is("24: kept to eight", x.house(5), Math.min(k, 8));
            x.letter(k % 9, k % 4);
        }
        for (int k = 11; k >= 4; k--) {
            Due.is("24: told", x.ofCell(k % 9, 2), k % 4);
            Due.is("24: still", x.undo(), k - 4);
        }
        Due.fails("24: no more", x, STATE, x::undo);
        Due.is("24: the four older ones stay", Due.drawn(x), "abc;d..;...;");
        x.letter(4, 0);
        Due.is("24: again one", x.undo(), 0);
        Due.type(x, "..;..;");
        x.keep();
        x.knock();
        x.grid(2, 3);
        x.type(8);
        x.knock();
        x.undo();
        Due.is("24: the paper stays", x.house(3), 7);
        Due.is("24: knocks stay", x.house(6), 2);
        Due.is("24: kept stays", x.compare(2), 1);
    }

    private static void undoOfEach() {
        Made[] changes = {x -> x.grid(4, 4), x -> x.block(0, true), x -> x.bar(0, true, true),
            x -> x.check(0, true), x -> x.shortest(3), x -> x.letter(3, 2), Crosshatch::blocks,
            x -> Due.word(x, "ccb", 1), x -> x.ban(0, true), x -> x.wish(0, true), x -> x.name(0, true),
            x -> x.lay(1, 1), x -> x.take(0), x -> x.theme(1, 2), Crosshatch::step, Crosshatch::read};
        for (int k = 0; k < changes.length; k++) {
            Crosshatch x = new Crosshatch();
            x.alphabet(3);
            Due.word(x, "abc", 3);
            Due.word(x, "aba", 4);
            Due.word(x, "cba", 5);
            x.lay(0, 0);
            Due.type(x, ".a;..;");
            String before = Due.seen(x);
            changes[k].on(x);
            Due.is("24: change " + k, x.house(5), 6);
            Due.is("24: is other by change " + k, Due.seen(x).equals(before), false);
            Due.is("24: undo of change " + k, x.undo(), 5);
            Due.is("24: as before change " + k, Due.seen(x), before);
        }
        Crosshatch y = new Crosshatch();
        String before = Due.seen(y);
        y.alphabet(7);
        y.undo();
        Due.is("24: as before alphabet()", Due.seen(y), before);
    }

    private static void promise25() {
        Crosshatch x = new Crosshatch();
        for (int k = 1; k <= 5; k++) {
            Due.is("25: knock", x.knock(), k);
            Due.is("25: told", x.house(6), k);
        }
        Due.is("25: no change", x.house(5), 0);
    }
}

/** Promises 40 to 47: search, fillings, the best one, hints, what is unfair, the next step. */
public final class FillingTest {
    private static final Class<IndexOutOfBoundsException> PLACE = IndexOutOfBoundsException.class;
    private static final Class<IllegalArgumentException> ARGUMENT = IllegalArgumentException.class;

    private FillingTest() {
    }

    public static void main(String[] args) {
        promise40();
        promise40Told();
        promise41();
        promise42();
        promise43();
        promise44();
        promise45();
        promise46();
        promise47();
        Due.end();
    }

    /** Three rows that do not cross, of 4, 3 and 2 cells, with so many words for each. */
    static Crosshatch product(int fours, int threes, int twos) {
        Crosshatch made = Due.with(4, 4, 3);
        made.block(7, true);
        made.block(10, true);
        made.block(11, true);
        for (int cell = 0; cell < 8; cell++) {
            made.bar(cell, true, true);
        }
        for (int k = 0; k < fours; k++) {
            made.word(0, 0, k / 4, k % 4, -2, 1);
        }
        for (int k = 0; k < threes; k++) {
            made.word(0, k / 4, k % 4, -2, -2, 1);
        }
        for (int k = 0; k < twos; k++) {
            made.word(k / 4, k % 4, -2, -2, -2, 1);
        }
        return made;
    }

    /** Rows of two, side by side and below each other, none of which cross, and so many words of two letters. */
    private static Crosshatch pairs(int wide, int high, int words) {
        Crosshatch made = Due.with(3, wide, high);
        for (int y = 0; y < high; y++) {
            if (wide == 4) {
                made.bar(4 * y + 1, false, true);
            }
            for (int cell = wide * y; y < high - 1 && cell < wide * y + wide; cell++) {
                made.bar(cell, true, true);
            }
        }
        for (int k = 0; k < words; k++) {
            made.word(k / 3, k % 3, -2, -2, -2, k);
        }
        return made;
    }

    private static void search(String name, Crosshatch x, int found, int tries, int deadEnds) {
        Due.is("40: found, " + name, x.search(0), found);
        Due.is("40: tries, " + name, x.search(1), tries);
        Due.is("40: dead ends, " + name, x.search(2), deadEnds);
    }

    private static void promise40() {
        search("nothing fits", new Crosshatch(), 0, 0, 1);
        // Five rows and four words: 4 + 4 * 3 + 4 * 3 * 2 + 4 * 3 * 2 * 1 tries.
        search("one word is missing", pairs(2, 5, 4), 0, 64, 24);
        search("as many words as slots", pairs(2, 5, 5), 1, 5, 0);
        // Ten rows and nine words; behind three tries 3 * 326 go by with 360 ends, then 1 + 1 + 16 with 6 and 1 more.
        search("open", pairs(4, 5, 9), -8, 1000, 366);
        Crosshatch x = pairs(2, 5, 4);
        x.lay(2, 1);
        search("laid ones are no tries", x, 0, 3 + 6 + 6, 6);
        x.ban(1, true);
        search("a banned one is laid", x, 0, 0, 0);
        Crosshatch y = new Crosshatch();
        for (int cell = 0; cell < 9; cell++) {
            y.block(cell, true);
        }
        search("no slots", y, 1, 0, 0);
        Crosshatch z = Due.with(2, 2, 2, "ab", "ba");
        z.block(2, true);
        z.block(3, true);
        z.lay(0, 1);
        search("all are laid", z, 1, 0, 0);
        for (int what : new int[] {-1, 3, Integer.MAX_VALUE, Integer.MIN_VALUE}) {
            Due.fails("40: search", z, ARGUMENT, () -> z.search(what));
        }
    }

    // Told step by step: the slot with the fewest words first, of those the smallest.
    private static void promise40Told() {
        Crosshatch x = Due.with(3, 2, 2, "ab", "ca", "ac", "ba");
        // 0a takes ab; 0d can take ac, 1d ba: 0d, then 1d (one word each), then 2a has ca.
        search("four tries", x, 1, 4, 0);
        x.ban(1, true);
        // ab: 0d takes ac, then 2a has none. ac: 1d has none. ba: 0d has none.
        search("dead ends", x, 0, 4, 3);
        x.ban(1, false);
        x.letter(1, 2);
        // 0a has ac alone, and so on.
        search("a letter told", x, 1, 4, 0);
        Due.is("40: begins with", x.found(0), 2);
    }

    private static void promise41() {
        Crosshatch x = Due.with(3, 2, 2, "ab", "ca", "ac", "ba");
        int[] want = {0, 2, 3, 1};
        for (int slot = 0; slot < 4; slot++) {
            Due.is("41: found(" + slot + ")", x.found(slot), want[slot]);
        }
        x.lay(0, 2);
        int[] other = {2, 0, 1, 3};
        for (int slot = 0; slot < 4; slot++) {
            Due.is("41: with one laid, " + slot, x.found(slot), other[slot]);
        }
        x.ban(2, true);
        Due.is("41: not found", x.found(0), -1);
        Due.is("41: open", pairs(4, 5, 9).found(0), -1);
        Due.fails("41: no slot", x, PLACE, () -> x.found(4));
        Due.fails("41: slot -1", x, PLACE, () -> x.found(-1));
    }

    private static void promise42() {
        Due.is("42: two", Due.with(3, 2, 2, "ab", "ca", "ac", "ba").fillings(), 2);
        Due.is("42: none", new Crosshatch().fillings(), 0);
        Due.is("42: 10 + 90 + 900 tries", product(10, 9, 10).fillings(), 900);
        Due.is("42: 1001 tries", product(11, 9, 9).fillings(), -8);
        Due.is("42: far more", product(10, 9, 11).fillings(), -8);
        Due.is("42: 16 * 9 * 5 by 16 + 144 + 720", product(16, 9, 5).fillings(), 720);
        Crosshatch x = product(10, 9, 11);
        x.lay(0, 3);
        Due.is("42: one laid", x.fillings(), 99);
        x.ban(3, true);
        Due.is("42: that one banned", x.fillings(), 0);
        Crosshatch y = product(10, 9, 11);
        y.lay(2, 19);
        Due.is("42: laid in the last slot", y.fillings(), 90);
        Crosshatch z = pairs(4, 5, 9);
        z.lay(9, 0);
        z.ban(0, true);
        Due.is("42: open, though the last one is banned", z.fillings(), -8);
        Crosshatch b = new Crosshatch();
        for (int cell = 0; cell < 9; cell++) {
            b.block(cell, true);
        }
        Due.is("42: without slots", b.fillings(), 1);
        Due.is("42: the same word not twice", Due.with(2, 2, 2, "aa").fillings(), 0);
    }

    private static void promise43() {
        Crosshatch x = Due.with(3, 2, 2, "ab", "ca", "ac", "ba");
        int[][] want = {{0, 2, 3, 1}, {2, 0, 1, 3}};
        for (int k = 0; k < 2; k++) {
            for (int slot = 0; slot < 4; slot++) {
                Due.is("43: filling(" + k + ", " + slot + ")", x.filling(k, slot), want[k][slot]);
            }
        }
        Crosshatch y = null;
        for (int k = 0; k < 900; k++) {
            y = k % 100 == 0 ? product(10, 9, 10) : y;
            Due.is("43: fours", y.filling(k, 0), k / 90);
            Due.is("43: threes", y.filling(k, 1), 10 + k / 10 % 9);
            Due.is("43: twos", y.filling(k, 2), 19 + k % 10);
        }
        Crosshatch z = product(10, 9, 11);
        Due.is("43: open", z.filling(5000, 0), -8);
        Due.fails("43: slot, open", z, PLACE, () -> z.filling(0, 3));
        Due.fails("43: k -1, open", z, ARGUMENT, () -> z.filling(-1, 0));
        Due.fails("43: slot ahead of k", x, PLACE, () -> x.filling(-1, -1));
        Due.fails("43: k -1", x, ARGUMENT, () -> x.filling(-1, 0));
        Due.fails("43: k 2", x, ARGUMENT, () -> x.filling(2, 0));
    }

    private static void promise44() {
        Crosshatch x = Due.with(2, 2, 2, "ab", "ba", "aa", "bb");
        x.bar(0, true, true);
        x.bar(1, true, true);
        // By order aa 2, ab 0, ba 1, bb 3: of the twelve pairs aa bb, ba bb and their like have the most.
        Due.is("44: value", x.best(true), 5);
        Due.is("44: aa bb", x.best(false), 2);
        x.wish(1, true);
        Due.is("44: value with a wish", x.best(true), 14);
        Due.is("44: ba bb", x.best(false), 8);
        x.wish(2, true);
        Due.is("44: two wishes", x.best(true), 23);
        Due.is("44: aa ba", x.best(false), 1);
        x.ban(2, true);
        Due.is("44: without aa", x.best(true), 14);
        Due.is("44: without aa", x.best(false), 3);
        Due.is("44: none", new Crosshatch().best(true), -1);
        Due.is("44: none", new Crosshatch().best(false), -1);
        Due.is("44: open", product(10, 9, 11).best(true), -8);
        Due.is("44: open", product(10, 9, 11).best(false), -8);
        Crosshatch b = new Crosshatch();
        for (int cell = 0; cell < 9; cell++) {
            b.block(cell, true);
        }
        Due.is("44: without slots", b.best(true), 0);
        Due.is("44: without slots", b.best(false), 0);
    }

    private static Crosshatch fives(int rows) {
        Crosshatch made = Due.with(2, 5, rows, "aaaaa", "aaaab", "aabaa");
        for (int cell = 0; cell < 5 * (rows - 1); cell++) {
            made.bar(cell, true, true);
        }
        return made;
    }

    private static void promise45() {
        // Filling 0 is aaaaa, aaaab: "a" in the middle of the first and "b" behind the second are in no other.
        Crosshatch x = fives(2);
        Due.is("45: ten open cells", x.hints(0), (1 << 2) + (1 << 9));
        // aabaa, aaaab: both letters b.
        Due.is("45: the last one", x.hints(5), (1 << 2) + (1 << 9));
        x.lay(0, 0);
        // Two are left: the second row tells them.
        Due.is("45: with a word laid", x.hints(0), 1 << 7);
        x.lay(1, 2);
        Due.is("45: just one", x.hints(0), 0);
        // Fifteen open cells: cell 9 leaves one other filling, aabaa in the first row, which cell 2 rules out.
        Crosshatch y = fives(3);
        Due.is("45: fifteen open cells", y.hints(0), (1 << 2) + (1 << 9));
        Crosshatch z = Due.with(3, 2, 2, "ab", "ca", "ac", "ba");
        Due.is("45: the smaller cell of two", z.hints(0), 2);
        Due.is("45: for the other one, too", z.hints(1), 2);
        Due.is("45: open", product(10, 9, 11).hints(7), -8);
        Due.fails("45: k -1", z, ARGUMENT, () -> z.hints(-1));
        Due.fails("45: k 2", z, ARGUMENT, () -> z.hints(2));
        Crosshatch o = product(10, 9, 11);
        Due.fails("45: k -1, open", o, ARGUMENT, () -> o.hints(-1));
    }

    private static void promise46() {
        // Filling 0: ab above, ac on the left, ba on the right, ca below.
        Crosshatch x = Due.with(3, 2, 2, "ab", "ca", "ac", "ba");
        Due.is("46: no names", x.unfair(0, true), 0);
        x.name(0, true);
        x.name(1, true);
        Due.is("46: words across are names", x.unfair(0, false), 0);
        Due.is("46: words down cross names alone", x.unfair(0, true), 2);
        x.name(2, true);
        Due.is("46: three names", x.unfair(0, false), 2);
        Due.is("46: three names", x.unfair(0, true), 2);
        x.name(3, true);
        Due.is("46: all are names", x.unfair(1, false), 4);
        Due.is("46: all are names", x.unfair(1, true), 4);
        Crosshatch y = Due.with(2, 2, 2, "ab", "ba");
        y.bar(0, true, true);
        y.bar(1, true, true);
        y.name(0, true);
        y.name(1, true);
        Due.is("46: crosses none", y.unfair(0, true), 0);
        Due.is("46: open", product(10, 9, 11).unfair(7, true), -8);
        Due.fails("46: k -1", x, ARGUMENT, () -> x.unfair(-1, true));
        Due.fails("46: k 2", x, ARGUMENT, () -> x.unfair(2, false));
        Crosshatch o = product(10, 9, 11);
        Due.fails("46: k -1, open", o, ARGUMENT, () -> o.unfair(-1, true));
    }

    private static void step(String name, Crosshatch x, int kind, int cell, int letter) {
        Due.is("47: kind, " + name, x.nextStep(0), kind);
        Due.is("47: cell, " + name, x.nextStep(1), cell);
        Due.is("47: letter, " + name, x.nextStep(2), letter);
    }

    private static void promise47() {
        Crosshatch x = Due.with(3, 2, 2, "ab", "ca", "ac", "ba");
        step("two fillings, a forced", x, 2, 0, 0);
        x.letter(0, 0);
        step("all that are left have the other a", x, 1, 3, 0);
        x.letter(3, 0);
        step("nothing is sure", x, 0, -1, -1);
        x.letter(2, 1);
        step("ab and ac are left, but ab is the other slot's", x, 2, 1, 2);
        x.letter(1, 2);
        step("all is there", x, 0, -1, -1);
        step("nothing is left", new Crosshatch(), 0, -1, -1);
        for (int what : new int[] {-1, 3, Integer.MAX_VALUE, Integer.MIN_VALUE}) {
            Due.fails("47: nextStep", x, ARGUMENT, () -> x.nextStep(what));
        }
    }
}

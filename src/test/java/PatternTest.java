/** Promises 34 to 39: patterns, and what crossings leave. */
public final class PatternTest {
    private static final Class<IndexOutOfBoundsException> PLACE = IndexOutOfBoundsException.class;
    private static final Class<IllegalArgumentException> ARGUMENT = IllegalArgumentException.class;
    private static final int[][] NO_PATTERNS = {{0, -2, -2, -2, -2}, {-2, -2, -2, -2, -2}, {-2, 0, 0, 0, 0},
        {0, 0, -2, 0, -2}, {0, 0, -2, -2, 0}, {0, 0, -2, -1, -1}, {3, 0, -2, -2, -2}, {0, 3, -2, -2, -2},
        {0, 0, 3, -2, -2}, {0, 0, 0, 3, -2}, {0, 0, 0, 0, 3}, {0, 0, -3, -2, -2}, {-3, 0, 0, 0, 0},
        {Integer.MAX_VALUE, 0, 0, 0, 0}, {0, 0, 0, 0, Integer.MIN_VALUE}};

    private PatternTest() {
    }

    public static void main(String[] args) {
        promise34();
        promise35();
        promise36();
        promise37();
        promise38();
        promise39();
        Due.end();
    }

    private static Crosshatch words() {
        Crosshatch made = Due.with(3, 3, 3, "cab", "ba", "ab", "abc", "aab", "aabc", "aabcc", "bb");
        made.ban(3, true);
        return made;
    }

    private static void promise34() {
        Crosshatch x = words();
        Due.is("34: two letters", x.count(-1, -1, -2, -2, -2), 3);
        Due.is("34: three", x.count(-1, -1, -1, -2, -2), 3);
        Due.is("34: four", x.count(-1, -1, -1, -1, -2), 1);
        Due.is("34: five", x.count(-1, -1, -1, -1, -1), 1);
        Due.is("34: a?? with the banned one", x.count(0, -1, -1, -2, -2), 2);
        Due.is("34: ?ab", x.count(-1, 0, 1, -2, -2), 2);
        Due.is("34: aab", x.count(0, 0, 1, -2, -2), 1);
        Due.is("34: cc", x.count(2, 2, -2, -2, -2), 0);
        Due.is("34: ????c", x.count(-1, -1, -1, -1, 2), 1);
        for (int[] p : NO_PATTERNS) {
            Due.fails("34: count", x, ARGUMENT, () -> x.count(p[0], p[1], p[2], p[3], p[4]));
        }
    }

    private static void promise35() {
        Crosshatch x = words();
        int[] two = {2, 1, 7, -1};
        int[] three = {4, 3, 0, -1};
        for (int k = 0; k < 4; k++) {
            Due.is("35: ??", x.nth(k, -1, -1, -2, -2, -2), two[k]);
            Due.is("35: ???", x.nth(k, -1, -1, -1, -2, -2), three[k]);
        }
        Due.is("35: ?b", x.nth(1, -1, 1, -2, -2, -2), 7);
        Due.is("35: far", x.nth(Integer.MAX_VALUE, -1, 1, -2, -2, -2), -1);
        Due.fails("35: k -1", x, ARGUMENT, () -> x.nth(-1, -1, -1, -2, -2, -2));
        for (int[] p : NO_PATTERNS) {
            Due.fails("35: nth", x, ARGUMENT, () -> x.nth(0, p[0], p[1], p[2], p[3], p[4]));
        }
    }

    private static void promise36() {
        Crosshatch x = words();
        Due.is("36: behind ab", x.after(2, -1, -1, -2, -2, -2), 1);
        Due.is("36: behind ab, ?b", x.after(2, -1, 1, -2, -2, -2), 7);
        Due.is("36: behind bb", x.after(7, -1, -1, -2, -2, -2), -1);
        Due.is("36: longer ones", x.after(7, -1, -1, -1, -2, -2), 4);
        Due.is("36: the banned one", x.after(4, 0, -1, -1, -2, -2), 3);
        Due.is("36: behind longer ones", x.after(6, -1, -1, -2, -2, -2), -1);
        Due.fails("36: no word", x, PLACE, () -> x.after(8, -1, -1, -2, -2, -2));
        Due.fails("36: word ahead of pattern", x, PLACE, () -> x.after(-1, -2, -2, -2, -2, -2));
        for (int[] p : NO_PATTERNS) {
            Due.fails("36: after", x, ARGUMENT, () -> x.after(0, p[0], p[1], p[2], p[3], p[4]));
        }
    }

    // 3 by 3 without the middle: slot 0 above, 1 on the left, 2 on the right, 3 below.
    private static Crosshatch ring() {
        Crosshatch made = Due.with(3, 3, 3, "abc", "aba", "cba", "aca", "acc", "caa");
        made.block(4, true);
        made.lay(0, 0);
        return made;
    }

    private static void promise37() {
        Crosshatch x = ring();
        int[][] want = {{0, -1}, {1, 3, 4, -1}, {5, 2, -1}, {1, 3, 5, 2, -1}};
        for (int slot = 0; slot < 4; slot++) {
            for (int k = 0; k < want[slot].length; k++) {
                Due.is("37: left(" + slot + ", " + k + ")", x.left(slot, k), want[slot][k]);
            }
            Due.is("37: how many", x.ofSlot(slot, 6), want[slot].length - 1);
        }
        // acc on the left asks for c?? below, which has to end with a, as slot 2 ends then.
        x.ban(5, true);
        x.ban(2, true);
        Due.is("37: nothing on the right", x.left(2, 0), -1);
        Due.is("37: so nothing anywhere", x.left(0, 0), -1);
        Due.is("37: though they fit", x.ofSlot(0, 5), 1);
        Due.fails("37: no slot", x, PLACE, () -> x.left(4, 0));
        Due.fails("37: slot ahead of k", x, PLACE, () -> x.left(-1, -1));
        Due.fails("37: k -1", x, ARGUMENT, () -> x.left(0, -1));
        Due.is("37: far", x.left(0, Integer.MAX_VALUE), -1);
    }

    private static void promise38() {
        Crosshatch x = ring();
        boolean[][] want = {{true, false, false, false, false, false}, {false, true, false, true, true, false},
            {false, false, true, false, false, true}, {false, true, true, true, true, true}};
        for (int slot = 0; slot < 4; slot++) {
            for (int word = 0; word < 6; word++) {
                Due.is("38: isFit(" + slot + ", " + word + ")", x.isFit(slot, word), want[slot][word]);
            }
        }
        x.letter(7, 2);
        Due.is("38: told c", x.isFit(3, 4), true);
        Due.is("38: told c, not b", x.isFit(3, 1), false);
        x.ban(4, true);
        Due.is("38: banned", x.isFit(3, 4), false);
        Due.fails("38: no slot", x, PLACE, () -> x.isFit(4, 0));
        Due.fails("38: slot -1", x, PLACE, () -> x.isFit(-1, 0));
        Due.fails("38: no word", x, PLACE, () -> x.isFit(0, 6));
        Due.fails("38: word -1", x, PLACE, () -> x.isFit(0, -1));
    }

    private static void promise39() {
        Crosshatch x = ring();
        int[] want = {15, 0, 0, 0, 0, 0};
        for (int word = 0; word < 6; word++) {
            Due.is("39: dies(" + word + ")", x.dies(word), want[word]);
        }
        x.ban(2, true);
        Due.is("39: the only one on the right", x.dies(5), 15);
        Due.is("39: banned already", x.dies(2), 0);
        Due.is("39: nothing is other", x.ofSlot(2, 6), 1);
        Crosshatch y = Due.with(2, 2, 2, "aa", "ab");
        y.bar(0, true, true);
        y.bar(1, true, true);
        y.letter(1, 0);
        Due.is("39: one slot of two", y.dies(0), 1);
        Due.is("39: none", y.dies(1), 0);
        Due.fails("39: no word", y, PLACE, () -> y.dies(2));
        Due.fails("39: word -1", y, PLACE, () -> y.dies(-1));
    }
}

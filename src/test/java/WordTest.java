/** Promises 9 to 13: the alphabet and words. */
public final class WordTest {
    private static final Class<IndexOutOfBoundsException> PLACE = IndexOutOfBoundsException.class;
    private static final Class<IllegalArgumentException> ARGUMENT = IllegalArgumentException.class;
    private static final Class<IllegalStateException> STATE = IllegalStateException.class;

    private WordTest() {
    }

    public static void main(String[] args) {
        promise9();
        promise10();
        promise10Throws();
        promise11();
        promise12();
        promise13();
        Due.end();
    }

    private static void promise9() {
        Crosshatch x = new Crosshatch();
        Due.is("9: first", x.alphabet(2), 4);
        Due.is("9: then", x.alphabet(8), 2);
        Due.is("9: told", x.house(0), 8);
        x.letter(0, 7);
        Due.fails("9: a letter is told", x, STATE, () -> x.alphabet(8));
        Due.fails("9: argument ahead of state", x, ARGUMENT, () -> x.alphabet(9));
        x.letter(0, -1);
        Due.is("9: not any more", x.alphabet(3), 8);
        Due.word(x, "ab", 0);
        Due.fails("9: words", x, STATE, () -> x.alphabet(4));
        for (int letters : new int[] {1, 0, -1, 9, Integer.MIN_VALUE, Integer.MAX_VALUE}) {
            Due.fails("9: alphabet", x, ARGUMENT, () -> x.alphabet(letters));
        }
        x.undo();
        Due.is("9: without words", x.alphabet(4), 3);
    }

    private static void promise10() {
        Crosshatch x = new Crosshatch();
        Due.is("10: two letters", x.word(3, 0, -2, -2, -2, 0), 0);
        Due.is("10: five letters", x.word(0, 1, 2, 3, 0, 9), 1);
        Due.is("10: three letters", x.word(0, 1, 2, -2, -2, 5), 2);
        Due.is("10: four letters", x.word(0, 1, 2, 0, -2, 5), 3);
        Due.is("10: as two ahead, but longer", x.word(3, 0, 0, -2, -2, 5), 4);
        String[] texts = {"da", "abcda", "abc", "abca", "daa"};
        int[] places = {0, 4, 1, 3, 2};
        for (int w = 0; w < texts.length; w++) {
            Due.is("10: text", x.text(w), texts[w]);
            Due.is("10: order", x.ofWord(w, 5), places[w]);
            Due.is("10: length", x.ofWord(w, 0), texts[w].length());
            for (int what = 2; what <= 4; what++) {
                Due.is("10: nothing at first", x.ofWord(w, what), 0);
            }
        }
        Due.is("10: worth", x.ofWord(1, 1), 9);
        Due.fails("10: there already", x, STATE, () -> x.word(0, 1, 2, -2, -2, 8));
        x.ban(2, true);
        Due.fails("10: banned, but there", x, STATE, () -> x.word(0, 1, 2, -2, -2, 5));
        for (int w = 5; w < 30; w++) {
            Due.is("10: number", x.word(w / 16, w / 4 % 4, w % 4, 3, 3, 1), w);
        }
        Due.fails("10: 30 are there", x, STATE, () -> x.word(3, 3, 3, 3, -2, 1));
        Due.fails("10: argument ahead of state", x, ARGUMENT, () -> x.word(3, 3, 3, 3, -2, 10));
    }

    private static void promise10Throws() {
        Crosshatch x = Due.with(3, 3, 3, "ab");
        int[][] wrong = {{3, 0, -2, -2, -2, 0}, {0, 3, -2, -2, -2, 0}, {0, 0, 3, -2, -2, 0}, {0, 0, 0, 3, -2, 0},
            {0, 0, 0, 0, 3, 0}, {-1, 0, -2, -2, -2, 0}, {0, -1, -2, -2, -2, 0}, {0, 0, -1, -2, -2, 0},
            {0, 0, 0, -1, -2, 0}, {0, 0, 0, 0, -1, 0}, {-2, -2, -2, -2, -2, 0}, {0, -2, -2, -2, -2, 0},
            {-2, 0, -2, -2, -2, 0}, {0, 0, -2, 0, -2, 0}, {0, 0, -2, -2, 0, 0}, {0, 0, 0, -2, 0, 0},
            {0, 0, -3, -2, -2, 0}, {0, 0, -2, -2, -2, -1}, {0, 0, -2, -2, -2, 10},
            {Integer.MAX_VALUE, 0, -2, -2, -2, 0}, {0, 0, Integer.MIN_VALUE, -2, -2, 0}};
        for (int[] w : wrong) {
            Due.fails("10: word", x, ARGUMENT, () -> x.word(w[0], w[1], w[2], w[3], w[4], w[5]));
        }
    }

    private static void promise11() {
        Crosshatch x = Due.with(3, 2, 2, "ab", "ca", "ac", "ba");
        x.lay(0, 0);
        Due.is("11: first", x.ban(0, true), false);
        Due.is("11: again", x.ban(0, true), true);
        Due.is("11: told", x.ofWord(0, 2), 1);
        Due.is("11: how many", x.house(2), 1);
        Due.is("11: stays laid", x.ofSlot(0, 4), 0);
        Due.is("11: fits no more", x.isFit(0, 0), false);
        Due.is("11: nor any other", x.ofSlot(0, 5), 0);
        Due.is("11: back", x.ban(0, false), true);
        Due.is("11: back again", x.ban(0, false), false);
        Due.is("11: fits", x.isFit(0, 0), true);
        Due.fails("11: ban(4)", x, PLACE, () -> x.ban(4, true));
        Due.fails("11: ban(-1)", x, PLACE, () -> x.ban(-1, false));
    }

    private static void promise12() {
        Crosshatch x = Due.with(3, 2, 2, "ab", "ca");
        Due.is("12: first", x.wish(1, true), false);
        Due.is("12: again", x.wish(1, true), true);
        Due.is("12: told", x.ofWord(1, 3), 1);
        Due.is("12: the other", x.ofWord(0, 3), 0);
        Due.is("12: back", x.wish(1, false), true);
        Due.is("12: told", x.ofWord(1, 3), 0);
        Due.fails("12: wish(2)", x, PLACE, () -> x.wish(2, true));
        Due.fails("12: wish(-1)", x, PLACE, () -> x.wish(-1, true));
    }

    private static void promise13() {
        Crosshatch x = Due.with(3, 2, 2, "ab", "ca");
        Due.is("13: first", x.name(1, true), false);
        Due.is("13: again", x.name(1, true), true);
        Due.is("13: told", x.ofWord(1, 4), 1);
        Due.is("13: the other", x.ofWord(0, 4), 0);
        Due.is("13: back", x.name(1, false), true);
        Due.is("13: told", x.ofWord(1, 4), 0);
        Due.fails("13: name(2)", x, PLACE, () -> x.name(2, true));
        Due.fails("13: name(-1)", x, PLACE, () -> x.name(-1, true));
    }
}

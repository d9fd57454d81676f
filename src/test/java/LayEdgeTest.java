/** The edges of part 3 of the description (laying, what is left) and of promises 14 to 17, 37 to 39. */
public final class LayEdgeTest {
    private LayEdgeTest() {
    }

    public static void main(String[] args) {
        fitsItself();
        fitsAsLong();
        fitsNotBanned();
        fitsLaidElsewhere();
        fitsLetters();
        thereByEach();
        layCounts();
        layWhereAllIsThere();
        takeLeaves();
        themeSmallest();
        themeTurned();
        themePartner();
        themeSecond();
        themeOneChange();
        themeNone();
        leftAtFirst();
        leftAgainAndAgain();
        leftTwice();
        leftOfBanned();
        leftByOrder();
        diesOfOnlyOne();
        diesOfLaid();
        diesNothingLeft();
        diesOfTwenty();
        stepKinds();
        stepSmallest();
        stepDownAlone();
        stepNothing();
        Due.end();
    }

    private static Crosshatch ring() {
        Crosshatch made = Due.with(3, 3, 3, "abc", "aba", "cba", "aca", "acc", "caa");
        made.block(4, true);
        return made;
    }

    // "(it FITS that SLOT itself, unless it is BANNED)"
    private static void fitsItself() {
        Crosshatch x = ring();
        x.lay(0, 0);
        Due.is("the word that is laid", x.isFit(0, 0), true);
        Due.is("it alone", x.ofSlot(0, 5), 1);
        Due.is("and is left", x.left(0, 0), 0);
        for (int slot = 1; slot < 4; slot++) {
            Due.is("in no other slot", x.isFit(slot, 0), false);
        }
        x.ban(0, true);
        Due.is("banned", x.isFit(0, 0), false);
        Due.is("none", x.ofSlot(0, 5), 0);
        x.ban(0, false);
        Due.is("not banned", x.isFit(0, 0), true);
    }

    // "if it is as long"
    private static void fitsAsLong() {
        String[] texts = {"aa", "aaa", "aaaa", "aaaaa"};
        for (int length = 2; length <= 5; length++) {
            Crosshatch x = Due.with(2, length, 2, texts);
            for (int w = 0; w < 4; w++) {
                Due.is("across, " + length, x.isFit(0, w), length == w + 2);
            }
            Crosshatch y = Due.with(2, 2, length, texts);
            for (int w = 0; w < 4; w++) {
                Due.is("down, " + length, y.isFit(1, w), length == w + 2);
            }
        }
    }

    // "not BANNED"
    private static void fitsNotBanned() {
        Crosshatch x = ring();
        for (int w = 0; w < 6; w++) {
            x.ban(w, true);
            for (int slot = 0; slot < 4; slot++) {
                Due.is("banned", x.isFit(slot, w), false);
                Due.is("fit", x.ofSlot(slot, 5), 5 - w);
            }
        }
        x.ban(5, false);
        Due.is("not banned any more", x.isFit(3, 5), true);
        Due.is("it alone", x.ofSlot(3, 5), 1);
    }

    // "LAID in no other SLOT"
    private static void fitsLaidElsewhere() {
        Crosshatch x = ring();
        Due.is("free", x.isFit(3, 3), true);
        x.lay(0, 3);
        Due.is("laid above", x.isFit(3, 3), false);
        Due.is("laid above", x.isFit(1, 3), false);
        x.take(0);
        Due.is("taken back", x.isFit(3, 3), true);
        x.lay(3, 3);
        Due.is("laid below", x.isFit(0, 3), false);
        Due.is("five others", x.ofSlot(0, 5), 5);
        x.block(4, true);
        Due.is("all are taken back", x.isFit(0, 3), true);
    }

    // "has all letters that are THERE in its CELLS"
    private static void fitsLetters() {
        for (int place = 0; place < 3; place++) {
            for (int letter = 0; letter < 3; letter++) {
                Crosshatch x = ring();
                x.letter(place, letter);
                for (int w = 0; w < 6; w++) {
                    Due.is("letter " + letter + " at " + place, x.isFit(0, w), x.text(w).charAt(place) == 'a' + letter);
                }
            }
        }
        Crosshatch x = ring();
        x.lay(1, 4);
        for (int w = 0; w < 6; w++) {
            Due.is("the first letter of the row below is c", x.isFit(3, w), x.text(w).charAt(0) == 'c');
        }
        Due.is("and of the row above a", x.ofSlot(0, 5), 3);
        x.letter(2, 0);
        Due.is("with another letter told", x.ofSlot(0, 5), 2);
    }

    // "A letter is THERE in a CELL, if it is TOLD, or a WORD that is LAID has the CELL."
    private static void thereByEach() {
        Crosshatch x = ring();
        Due.is("none", x.ofCell(0, 1), -1);
        x.letter(0, 0);
        Due.is("told", x.ofCell(0, 1), 0);
        x.letter(0, -1);
        x.lay(0, 0);
        Due.is("by the word across", x.ofCell(0, 1), 0);
        x.take(0);
        x.lay(1, 0);
        Due.is("by the word down", x.ofCell(0, 1), 0);
        Due.is("at its end", x.ofCell(6, 1), 2);
        x.lay(0, 1);
        x.take(1);
        Due.is("by the other word still", x.ofCell(0, 1), 0);
        Due.is("gone", x.ofCell(6, 1), -1);
        x.letter(0, 0);
        x.take(0);
        Due.is("told still", x.ofCell(0, 1), 0);
        Due.is("gone", x.ofCell(2, 1), -1);
    }

    // Promise 14: "in how many CELLS no letter was THERE ahead of it"
    private static void layCounts() {
        Crosshatch x = ring();
        Due.is("14: three", x.lay(0, 0), 3);
        Due.is("14: two, one is there by a word", x.lay(1, 4), 2);
        Due.is("14: two, too", x.lay(2, 5), 2);
        Due.is("14: one, two are there by words", x.lay(3, 2), 1);
        Crosshatch y = ring();
        y.letter(1, 1);
        Due.is("14: one is told", y.lay(0, 0), 2);
        y.take(0);
        y.letter(0, 0);
        Due.is("14: two are told", y.lay(0, 0), 1);
        y.take(0);
        y.lay(1, 1);
        Due.is("14: told and there by a word", y.lay(0, 0), 1);
    }

    private static void layWhereAllIsThere() {
        Crosshatch x = Due.with(3, 2, 2, "ab", "ca", "ac", "ba");
        x.lay(0, 0);
        x.lay(3, 1);
        Due.is("14: all letters are there", Due.drawn(x), "ab;ca;");
        Due.is("14: no cell was empty", x.lay(1, 2), 0);
        Due.is("14: nor here", x.lay(2, 3), 0);
        Due.is("14: four are laid", x.ofGrid(6), 4);
        Crosshatch y = Due.with(3, 2, 2, "ab");
        y.letter(0, 0);
        y.letter(1, 1);
        Due.is("14: all are told", y.lay(0, 0), 0);
        Due.is("14: laid all the same", y.ofSlot(0, 4), 0);
    }

    // Promise 15: what is there by others stays.
    private static void takeLeaves() {
        Crosshatch x = ring();
        x.lay(0, 0);
        x.lay(1, 1);
        x.lay(2, 2);
        x.letter(1, 1);
        Due.is("15: drawn", Due.drawn(x), "abc;b#b;a.a;");
        Due.is("15: the word", x.take(0), 0);
        Due.is("15: all its letters are there by others", Due.drawn(x), "abc;b#b;a.a;");
        Due.is("15: but it is not laid", x.ofWord(0, 6), -1);
        Due.is("15: the word", x.take(2), 2);
        Due.is("15: its letters are gone", Due.drawn(x), "ab.;b#.;a..;");
        Due.is("15: the word", x.take(1), 1);
        Due.is("15: the told one stays", Due.drawn(x), ".b.;.#.;...;");
        Due.is("15: none is laid", x.ofGrid(6), 0);
        Due.is("15: it can be laid again", x.lay(0, 0), 2);
    }

    // Promise 16: "the smallest SLOT without a WORD that it FITS"
    private static void themeSmallest() {
        Crosshatch x = ring();
        Due.is("16: the first slot", x.theme(0, 1), 0);
        Due.is("16: its partner", x.ofSlot(3, 4), 1);
        Due.is("16: acc fits nowhere", x.theme(4, 5), -9);
        Due.is("16: aca fits on the left first", x.theme(3, 5), 1);
        Due.is("16: its partner", x.ofSlot(2, 4), 5);
        Due.is("16: drawn", Due.drawn(x), "abc;c#a;aba;");
        Due.is("16: no slot is without a word", x.theme(2, 4), -9);
    }

    // The first word may be in the greater one of two partners.
    private static void themeTurned() {
        Crosshatch x = ring();
        x.letter(0, 0);
        x.letter(2, 2);
        x.letter(6, 2);
        x.letter(8, 0);
        // a.c above and on the left, c.a on the right and below
        Due.is("16: caa is on the right first, abc on the left", x.theme(5, 0), 2);
        Due.is("16: first", x.ofSlot(2, 4), 5);
        Due.is("16: second", x.ofSlot(1, 4), 0);
        Due.is("16: cba below, acc above", x.theme(2, 4), 3);
        Due.is("16: drawn", Due.drawn(x), "acc;b#a;cba;");
        Due.is("16: all are laid", x.ofGrid(6), 4);
    }

    // "of which the PARTNER is another SLOT, without a WORD"
    private static void themePartner() {
        Crosshatch x = Due.with(3, 3, 3, "abc", "aba", "cba", "aca");
        Due.is("16: across", x.theme(0, 1), 0);
        Due.is("16: not in the middle", x.theme(2, 3), 3);
        for (int corner : new int[] {0, 2, 6, 8}) {
            x.block(corner, true);
        }
        Due.is("16: two in the middle, their own partners", x.ofGrid(4) * 10 + x.theme(0, 1), 20 - 9);
        Crosshatch y = ring();
        y.lay(3, 3);
        Due.is("16: below is a word", y.theme(0, 1), -9);
        Due.is("16: nor can it be above", y.theme(5, 2), 1);
        y.undo();
        y.take(3);
        y.lay(0, 3);
        Due.is("16: the partner has a word", y.theme(5, 2), -9);
        Due.is("16: on the left and on the right is none", y.theme(1, 4), 1);
        Crosshatch z = ring();
        z.block(0, true);
        Due.is("16: no slot has a partner", z.theme(0, 1), -9);
    }

    // "that the second one FITS then"
    private static void themeSecond() {
        Crosshatch x = ring();
        x.letter(7, 1);
        Due.is("16: the second one does not fit below", x.theme(0, 3), 1);
        Crosshatch y = ring();
        y.ban(1, true);
        Due.is("16: the second one is banned", y.theme(0, 1), -9);
        Due.is("16: the first one is banned", y.theme(1, 0), -9);
        y.ban(1, false);
        y.lay(1, 1);
        Due.is("16: the second one is laid", y.theme(0, 1), -9);
        Due.is("16: the first one is laid", y.theme(1, 0), -9);
        Crosshatch z = Due.with(3, 3, 3, "ab", "abc", "abca");
        Due.is("16: the second one is too short", z.theme(1, 0), -9);
        Due.is("16: the first one is too long", z.theme(2, 1), -9);
    }

    private static void themeOneChange() {
        Crosshatch x = ring();
        int changes = 8;
        Due.is("24: eight", x.house(5), changes);
        x.undo();
        x.block(4, true);
        x.undo();
        x.undo();
        x.block(4, true);
        int before = x.house(5);
        x.theme(0, 1);
        Due.is("16: one change", x.house(5), before + 1);
        Due.is("16: two words", x.ofGrid(6), 2);
        x.undo();
        Due.is("16: both are back by one undo()", x.ofGrid(6), 0);
    }

    private static void themeNone() {
        Crosshatch x = RefusedTest.full();
        for (int other = 1; other < 6; other++) {
            int word = other;
            Due.idle("16: laid already", RefusedTest::full, -9, y -> y.theme(0, word));
            Due.idle("16: laid already", RefusedTest::full, -9, y -> y.theme(word, 0));
        }
        Due.is("16: nothing was laid", x.ofGrid(6), 1);
        Due.idle("16: without slots", () -> {
            Crosshatch made = Due.with(3, 2, 2, "ab", "ba");
            made.block(1, true);
            made.block(2, true);
            return made;
        }, -9, y -> y.theme(0, 1));
    }

    // "LEFT: of each SLOT all WORDS that FIT at first"
    private static void leftAtFirst() {
        Crosshatch x = Due.with(3, 4, 2, "abca", "cabc", "bb");
        for (int cell = 0; cell < 4; cell++) {
            x.bar(cell, true, true);
        }
        Due.is("37: nothing crosses", x.ofSlot(0, 6), 2);
        x.letter(0, 2);
        Due.is("37: what fits is left", x.left(0, 0), 1);
        Due.is("37: it alone", x.ofSlot(0, 6), 1);
        x.lay(1, 1);
        Due.is("37: that is laid elsewhere", x.ofSlot(0, 6), 0);
        Due.is("37: the one that is laid is left", x.left(1, 0), 1);
    }

    // A way of four slots, each of which begins where the one ahead ends.
    private static Crosshatch stairs() {
        Crosshatch made = Due.with(4, 5, 5, "aab", "bbc", "ccd", "dda");
        for (int cell : new int[] {3, 4, 5, 6, 8, 9, 10, 11, 15, 16, 17, 18, 20, 21, 22, 23}) {
            made.block(cell, true);
        }
        return made;
    }

    // "then, again and again"
    private static void leftAgainAndAgain() {
        Crosshatch x = stairs();
        for (int slot = 0; slot < 4; slot++) {
            Due.is("37: all four", x.ofSlot(slot, 6), 4);
        }
        x.letter(24, 3);
        for (int slot = 0; slot < 4; slot++) {
            Due.is("37: one from the end on", x.ofSlot(slot, 6), 1);
            Due.is("37: which", x.left(slot, 0), (slot + 3) % 4);
            Due.is("37: though so many fit", x.ofSlot(slot, 5), slot == 3 ? 1 : 4);
        }
        x.letter(24, -1);
        x.letter(0, 3);
        for (int slot = 0; slot < 4; slot++) {
            Due.is("37: one from the begin on", x.ofSlot(slot, 6), 1);
            Due.is("37: which", x.left(slot, 0), (slot + 3) % 4);
        }
        x.ban(2, true);
        for (int slot = 0; slot < 4; slot++) {
            Due.is("37: none, from the end on", x.ofSlot(slot, 6), 0);
            Due.is("37: none", x.left(slot, 0), -1);
        }
    }

    // A word may be left in two slots, though no filling gives it to both.
    private static void leftTwice() {
        Crosshatch x = Due.with(2, 2, 2, "aa");
        for (int slot = 0; slot < 4; slot++) {
            Due.is("37: left in each", x.left(slot, 0), 0);
        }
        Due.is("42: but no filling", x.fillings(), 0);
        Due.is("39: and all die with it", x.dies(0), 15);
    }

    // A word that is laid and banned fits no more, so that nothing is left where it crosses.
    private static void leftOfBanned() {
        Crosshatch x = ring();
        x.lay(0, 0);
        Due.is("37: left", x.ofSlot(1, 6), 3);
        x.ban(0, true);
        for (int slot = 0; slot < 4; slot++) {
            Due.is("37: none is left in " + slot, x.ofSlot(slot, 6), 0);
        }
        Due.is("37: though some fit", x.ofSlot(1, 5), 3);
        Due.is("37: its letters are there", x.drawn(0), "abc");
    }

    private static void leftByOrder() {
        Crosshatch x = Due.with(4, 4, 2, "dddd", "abcd", "bcda", "aaaa", "cccc");
        for (int cell = 0; cell < 4; cell++) {
            x.bar(cell, true, true);
        }
        int[] want = {3, 1, 2, 4, 0, -1, -1};
        for (int k = 0; k < want.length; k++) {
            Due.is("37: left(0, " + k + ")", x.left(0, k), want[k]);
            Due.is("37: left(1, " + k + ")", x.left(1, k), want[k]);
        }
        x.ban(2, true);
        Due.is("37: the third one then", x.left(0, 2), 4);
        Due.is("37: behind the last one", x.left(0, 4), -1);
        Due.is("37: far behind it", x.left(0, Integer.MAX_VALUE), -1);
    }

    // Promise 39: "in which some WORD is LEFT, but none would be"
    private static void diesOfOnlyOne() {
        Crosshatch x = stairs();
        Due.is("39: one of four that go round", x.dies(0), 15);
        x.letter(24, 3);
        for (int w = 0; w < 4; w++) {
            Due.is("39: each is the only one somewhere", x.dies(w), 15);
        }
        Crosshatch y = Due.with(2, 3, 2, "aaa", "aab", "abb");
        for (int cell = 0; cell < 3; cell++) {
            y.bar(cell, true, true);
        }
        y.letter(2, 0);
        y.letter(4, 1);
        Due.is("39: the row above", y.dies(0), 1);
        Due.is("39: none", y.dies(1), 0);
        Due.is("39: the row below", y.dies(2), 2);
        Due.is("39: it is not banned by that", y.ofWord(2, 2), 0);
        y.ban(2, true);
        Due.is("39: banned already", y.dies(2), 0);
        Due.is("39: the row above still", y.dies(0), 1);
    }

    private static void diesOfLaid() {
        Crosshatch x = ring();
        x.lay(0, 0);
        Due.is("39: the one that is laid, and all that cross it", x.dies(0), 15);
        Crosshatch y = Due.with(2, 3, 2, "aaa", "aab");
        for (int cell = 0; cell < 3; cell++) {
            y.bar(cell, true, true);
        }
        y.lay(1, 0);
        Due.is("39: its slot", y.dies(0), 2);
        Due.is("39: the other one's slot", y.dies(1), 1);
        y.lay(0, 1);
        Due.is("39: its slot", y.dies(1), 1);
    }

    private static void diesNothingLeft() {
        Crosshatch x = Due.with(3, 3, 3, "aaa", "bbb", "abc");
        x.ban(0, true);
        x.ban(1, true);
        x.ban(2, true);
        Due.is("39: nothing is left anywhere", x.dies(0) + x.dies(1) + x.dies(2), 0);
        Due.is("39: without slots", GridEdgeTest.drawn(".#", "##").ofGrid(4), 0);
        Crosshatch y = Due.with(3, 2, 2, "aa");
        y.block(0, true);
        y.block(3, true);
        Due.is("39: without slots", y.dies(0), 0);
    }

    // A set of twenty slots: each quarter of the grid has rows and columns of its own.
    private static void diesOfTwenty() {
        Crosshatch x = Due.with(2, 5, 5, "aa", "aaa");
        for (int k = 0; k < 5; k++) {
            x.bar(5 * k + 1, false, true);
            x.bar(5 + k, true, true);
        }
        int twos = 0;
        int threes = 0;
        for (int slot = 0; slot < 20; slot++) {
            boolean isRight = x.ofSlot(slot, 0) % 5 > 1;
            boolean isLow = x.ofSlot(slot, 0) / 5 > 1;
            twos += isRight && isLow ? 0 : 1 << slot;
            threes += !isRight && !isLow ? 0 : 1 << slot;
        }
        Due.is("28: twenty", x.ofGrid(4), 20);
        Due.is("39: all that aa is in, or crosses", x.dies(0), twos);
        Due.is("39: all that aaa is in, or crosses", x.dies(1), threes);
        Due.is("39: the last slot dies with it", threes >> 19, 1);
    }

    // Promise 17: the kinds come one behind the other, and each tells one letter alone.
    private static void stepKinds() {
        Crosshatch x = stairs();
        x.letter(24, 3);
        int[] cells = {0, 1, 2, 7, 12, 13, 14, 19};
        int[] letters = {3, 3, 0, 0, 1, 1, 2, 2};
        for (int k = 0; k < cells.length; k++) {
            Due.is("47: cell", x.nextStep(1), cells[k]);
            Due.is("47: letter", x.nextStep(2), letters[k]);
            Due.is("17: kind", x.step(), 1);
            Due.is("17: told", x.ofCell(cells[k], 2), letters[k]);
            Due.is("17: one more", x.ofGrid(5), k + 2);
        }
        Due.is("17: nothing more", x.step(), 0);
        Due.is("17: no more letters", x.ofGrid(5), 9);
        Crosshatch y = Due.with(3, 2, 2, "ab", "ca", "ac", "ba");
        Due.is("17: forced alone", y.step(), 2);
        Due.is("17: the smaller one of two", Due.drawn(y), "a.;..;");
        Due.is("17: now the crossings leave one", y.step(), 1);
        Due.is("17: that is the other one", Due.drawn(y), "a.;.a;");
        Due.is("17: two fillings are left", y.step(), 0);
    }

    // "the smallest such CELL": one in which a letter is there is none.
    private static void stepSmallest() {
        Crosshatch x = Due.with(3, 3, 2, "abc", "aac");
        for (int cell = 0; cell < 3; cell++) {
            x.bar(cell, true, true);
        }
        int[] cells = {0, 2, 3, 5};
        for (int k = 0; k < 4; k++) {
            Due.is("47: cell", x.nextStep(1), cells[k]);
            x.step();
        }
        Due.is("17: drawn", Due.drawn(x), "a.c;a.c;");
        Due.is("17: b or a", x.nextStep(0), 0);
        x.lay(1, 0);
        Due.is("47: one is left above", x.nextStep(1), 1);
        Due.is("17: by what is left", x.step(), 1);
        Due.is("17: drawn", Due.drawn(x), "aac;abc;");
        Due.is("17: nothing more", x.step(), 0);
    }

    // "(first its ACROSS one, then its DOWN one)": a cell that is in one of them alone.
    private static void stepDownAlone() {
        Crosshatch x = Due.with(3, 2, 3, "abc");
        for (int row = 0; row < 3; row++) {
            x.bar(2 * row, false, true);
        }
        x.block(1, true);
        Due.is("47: down alone", x.nextStep(0) * 100 + x.nextStep(1) * 10 + x.nextStep(2), 100);
        x.step();
        Due.is("47: the next one", x.nextStep(1), 2);
        x.step();
        Due.is("47: the last one", x.nextStep(1) * 10 + x.nextStep(2), 42);
        x.step();
        Due.is("17: the slot of two has no word", x.step(), 0);
        Due.is("17: drawn", Due.drawn(x), "a#;b.;c.;");
    }

    private static void stepNothing() {
        Crosshatch x = new Crosshatch();
        Due.is("17: without words", x.step(), 0);
        Due.is("17: a change", x.house(5), 1);
        Crosshatch y = GridEdgeTest.drawn("a#", "##");
        Due.is("17: without slots", y.step(), 0);
        Due.is("17: a letter in no slot stays", Due.drawn(y), "a#;##;");
        Due.is("17: a change", y.house(5), 2);
    }
}

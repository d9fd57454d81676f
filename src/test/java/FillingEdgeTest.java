import java.util.function.Supplier;

/** The edges of parts 3 and 4 of the description (fillings, search, best, forced, hints) and of promises 40 to 47. */
public final class FillingEdgeTest {
    private FillingEdgeTest() {
    }

    public static void main(String[] args) {
        noSlots();
        unlikeWords();
        crossingLetters();
        byOrder();
        triesOfAll();
        triesOfAllInVain();
        triesOfAllLaid();
        triesOfAllBanned();
        triesOfSearchFound();
        triesOfSearchInVain();
        triesOfSearchLaid();
        searchAtFirst();
        searchBanned();
        searchFewestFirst();
        searchDeadEnds();
        searchFound();
        values();
        bestFirst();
        bestEdges();
        forced();
        forcedNowhere();
        forcedOpen();
        hintsTen();
        hintsFewest();
        hintsGrown();
        hintsOfOne();
        unfairEdges();
        stepForced();
        stepOpen();
        twentySlots();
        thirtyWords();
        lastCell();
        Due.end();
    }

    /** Rows of 5, 4, 3 and 2 cells that do not cross, and so many words for each. */
    private static Crosshatch rows(int fives, int fours, int threes, int twos) {
        Crosshatch made = GridEdgeTest.drawn(".....", "....#", "...##", "..###");
        for (int cell = 0; cell < 15; cell++) {
            made.bar(cell, true, true);
        }
        int[] many = {fives, fours, threes, twos};
        for (int row = 0; row < 4; row++) {
            for (int k = 0; k < many[row]; k++) {
                int c = row < 3 ? 0 : -2;
                made.word(k / 4, k % 4, c, row < 2 ? 0 : -2, row < 1 ? 0 : -2, 1);
            }
        }
        return made;
    }

    private static Crosshatch square() {
        return Due.with(3, 2, 2, "ab", "ca", "ac", "ba");
    }

    private static Crosshatch blocked() {
        return GridEdgeTest.drawn("##", "##");
    }

    // "(A GRID without SLOTS has one FILLING.)"
    private static void noSlots() {
        Crosshatch[] all = {blocked(), GridEdgeTest.drawn("a#", "##"), GridEdgeTest.drawn(".#", "#.")};
        for (Crosshatch x : all) {
            Due.is("42: one", x.fillings(), 1);
            Due.is("44: its value", x.best(true), 0);
            Due.is("44: its number", x.best(false), 0);
            Due.is("45: no hints", x.hints(0), 0);
            Due.is("46: nothing unfair", x.unfair(0, true) + x.unfair(0, false), 0);
            Due.is("40: found", x.search(0), 1);
            Due.is("40: no tries", x.search(1), 0);
            Due.is("40: no dead ends", x.search(2), 0);
            Due.is("27: no letter is forced", x.ofCell(0, 7), -1);
            Due.is("47: no step", x.nextStep(0), 0);
            Due.is("22: a walk through one", x.walk(0), 1);
            Due.is("23: it", x.next(), 0);
            Due.is("23: none behind it", x.next(), -1);
        }
        Crosshatch y = new Crosshatch();
        Due.is("42: slots, but no words", y.fillings(), 0);
        Due.is("44: none", y.best(true) * 10 + y.best(false), -11);
    }

    // "no WORD to two"
    private static void unlikeWords() {
        Due.is("42: two cross", Due.with(2, 2, 2, "aa").fillings(), 0);
        Crosshatch x = GridEdgeTest.drawn("...", "###", "...");
        x.word(0, 1, 0, -2, -2, 1);
        Due.is("42: one word for two", x.fillings(), 0);
        x.word(1, 1, 0, -2, -2, 1);
        Due.is("42: two words for two", x.fillings(), 2);
        x.lay(1, 0);
        Due.is("42: one is laid behind", x.fillings(), 1);
        Due.is("43: so the first slot has the other", x.filling(0, 0), 1);
    }

    // "so that SLOTS that CROSS have the same letter there"
    private static void crossingLetters() {
        Crosshatch x = Due.with(2, 3, 2, "aba", "aa", "ba", "ab");
        x.block(3, true);
        x.block(5, true);
        Due.is("42: aba, with ba below its middle", x.fillings(), 1);
        Due.is("43: across", x.filling(0, 0), 0);
        Due.is("43: down", x.filling(0, 1), 2);
        x.letter(4, 1);
        Due.is("42: no word ends so", x.fillings(), 0);
    }

    // "FILLINGS are numbered from 0: first by the WORD of the SLOT 0, by ORDER, then by that of the SLOT 1"
    private static void byOrder() {
        Crosshatch x = GridEdgeTest.drawn("...", "###", "...");
        Due.word(x, "cab", 1);
        Due.word(x, "abc", 1);
        Due.word(x, "bca", 1);
        int[][] want = {{1, 2}, {1, 0}, {2, 1}, {2, 0}, {0, 1}, {0, 2}};
        Due.is("42: six", x.fillings(), 6);
        for (int k = 0; k < 6; k++) {
            Due.is("43: slot 0 of " + k, x.filling(k, 0), want[k][0]);
            Due.is("43: slot 1 of " + k, x.filling(k, 1), want[k][1]);
        }
    }

    // "If a TRY behind the 1000th one were to be made, it is OPEN how many there are."
    private static void triesOfAll() {
        Due.is("42: 10 + 90 + 900 tries", FillingTest.product(10, 9, 10).fillings(), 900);
        Due.is("42: 11 + 99 + 891 tries", FillingTest.product(11, 9, 9).fillings(), -8);
        Due.is("42: 10 + 10 * 11 + 10 * 11 * 8 tries", FillingTest.product(10, 11, 8).fillings(), 880);
        Due.is("42: no word, no try", new Crosshatch().fillings(), 0);
        Due.is("42: 9 + 90 + 900 tries", FillingTest.product(9, 10, 10).fillings(), 900);
        Supplier<Crosshatch> open = () -> FillingTest.product(11, 9, 9);
        Due.idle("42: open", open, -8, Crosshatch::fillings);
        Due.idle("43: open", open, -8, x -> x.filling(0, 0));
        Due.idle("44: open", open, -8, x -> x.best(true));
        Due.idle("44: open", open, -8, x -> x.best(false));
        Due.idle("45: open", open, -8, x -> x.hints(0));
        Due.idle("46: open", open, -8, x -> x.unfair(0, true));
        Due.idle("46: open", open, -8, x -> x.unfair(0, false));
        Due.idle("27: open", open, -8, x -> x.ofCell(0, 7));
        Due.idle("22: open", open, -8, x -> x.walk(0));
        Due.idle("40: but a search has found one", open, 1, x -> x.search(0));
        Due.idle("54: open", open, true, Crosshatch::isSound);
    }

    // As many tries go by without a filling, as the last slot has no word.
    private static void triesOfAllInVain() {
        Due.is("42: 10 + 90 + 900 tries, then none", rows(10, 9, 10, 0).fillings(), 0);
        Due.is("42: 11 + 99 + 891 tries, then none", rows(11, 9, 9, 0).fillings(), -8);
        Due.is("44: none", rows(10, 9, 10, 0).best(true), -1);
        Due.is("44: open", rows(11, 9, 9, 0).best(true), -8);
    }

    // "(a TRY; also one that is LAID there)"
    private static void triesOfAllLaid() {
        Crosshatch x = rows(1, 9, 10, 10);
        Due.is("42: 1 + 9 + 90 + 900 tries", x.fillings(), 900);
        x.lay(0, 0);
        Due.is("42: as many with the first one laid", x.fillings(), 900);
        Crosshatch y = rows(1, 10, 9, 10);
        Due.is("42: 1 + 10 + 90 + 900 tries", y.fillings(), -8);
        y.lay(0, 0);
        Due.is("42: open with the first one laid, too", y.fillings(), -8);
        y.block(0, true);
        y.block(2, true);
        y.block(4, true);
        Due.is("42: without that slot 10 + 90 + 900", y.fillings(), 900);
    }

    private static void triesOfAllBanned() {
        Crosshatch x = rows(10, 9, 10, 1);
        x.lay(3, 29);
        Due.is("42: the last one is laid", x.fillings(), -8);
        x.ban(29, true);
        Due.is("42: and banned: 1000 tries, then none", x.fillings(), 0);
        Due.is("40: nothing is searched", x.search(0) + x.search(1) + x.search(2), 0);
        Crosshatch y = rows(11, 9, 9, 1);
        y.lay(3, 29);
        y.ban(29, true);
        Due.is("42: 1001 tries", y.fillings(), -8);
        Due.is("40: but nothing is searched", y.search(0) + y.search(1) + y.search(2), 0);
        y.undo();
        y.take(3);
        y.lay(0, 3);
        y.ban(3, true);
        Due.is("42: the first one is laid and banned", y.fillings(), 0);
    }

    private static void search(String name, Crosshatch x, int found, int tries, int deadEnds) {
        Due.is("40: found, " + name, x.search(0), found);
        Due.is("40: tries, " + name, x.search(1), tries);
        Due.is("40: dead ends, " + name, x.search(2), deadEnds);
    }

    // Four rows cross four columns; what a search needs there was counted by a program of its own. Below stands a row
    // of two cells with one word, which is taken first, a try more.
    private static Crosshatch foundLate() {
        String[] words = {"adad", "bcab", "dadb", "abcc", "addb", "bacc", "aaca", "cbad", "bbcd", "bdab", "bcbb", "abad",
            "dbca", "cdcb", "dada", "dabd", "bada", "acdb", "cccd", "ddca", "dcbc", "cdba", "abdb", "babc", "aa"};
        Crosshatch made = Due.with(4, 4, 5, words);
        for (int cell = 12; cell < 16; cell++) {
            made.bar(cell, true, true);
        }
        made.block(18, true);
        made.block(19, true);
        return made;
    }

    // "(with 1000 TRIES, and the DEAD ends till then)": it would be found with the try behind the 1000th.
    private static void triesOfSearchFound() {
        Crosshatch x = foundLate();
        search("with the 1001st try", x, -8, 1000, 417);
        Due.is("41: none", x.found(0), -1);
        Due.is("41: not even the one that was taken first", x.found(8), -1);
        x.lay(8, 24);
        search("with the 1000th try", x, 1, 1000, 417);
        int[] want = {15, 20, 0, 10, 12, 13, 23, 21, 24};
        for (int slot = 0; slot < 9; slot++) {
            Due.is("41: found(" + slot + ")", x.found(slot), want[slot]);
        }
    }

    // The same, but in vain: the last dead end comes behind the 1000th try, or it is not told.
    private static Crosshatch inVain() {
        String[] words = {"bdc", "dcb", "aa", "da", "cc", "ab", "cbb", "acb", "cdd", "db", "ba", "acc", "cd", "cba", "dc",
            "bbd", "aaaa"};
        Crosshatch made = Due.with(4, 4, 5, words);
        for (int cell : new int[] {0, 1, 2, 3, 5, 10, 12, 13, 14, 15}) {
            made.bar(cell, true, true);
        }
        for (int row = 0; row < 4; row++) {
            made.bar(4 * row + 1, false, true);
        }
        made.letter(0, 3);
        return made;
    }

    private static void triesOfSearchInVain() {
        Crosshatch x = inVain();
        search("1001 tries in vain", x, -8, 1000, 377);
        Due.is("41: none", x.found(12), -1);
        x.lay(12, 16);
        search("1000 tries in vain", x, 0, 1000, 378);
        Due.is("41: none, not even the one that is laid", x.found(12), -1);
    }

    // "WORDS that are LAID count as taken ahead (that is no TRY)."
    private static void triesOfSearchLaid() {
        Crosshatch x = square();
        search("four", x, 1, 4, 0);
        int[] words = {0, 2, 3, 1};
        for (int slot = 0; slot < 4; slot++) {
            x.lay(slot, words[slot]);
            search("laid " + (slot + 1), x, 1, 3 - slot, 0);
            Due.is("41: the one that is laid", x.found(slot), words[slot]);
        }
        Crosshatch y = square();
        y.lay(3, 0);
        search("ab below: on the right none ends with b", y, 0, 0, 1);
        y.take(3);
        y.lay(3, 3);
        search("ba below", y, 1, 3, 0);
    }

    // "As soon as all SLOTS have one (at first, too, also without SLOTS), it is FOUND"
    private static void searchAtFirst() {
        search("without slots", blocked(), 1, 0, 0);
        Crosshatch x = Due.with(2, 2, 2, "ab");
        x.block(2, true);
        x.block(3, true);
        search("one slot", x, 1, 1, 0);
        x.lay(0, 0);
        search("its word is laid", x, 1, 0, 0);
        Due.is("41: it", x.found(0), 0);
    }

    // "If a WORD that is LAID is BANNED, there is nothing to search"
    private static void searchBanned() {
        Crosshatch x = Due.with(2, 2, 2, "ab", "ba");
        x.block(2, true);
        x.block(3, true);
        x.lay(0, 0);
        x.ban(0, true);
        search("all are laid, one is banned", x, 0, 0, 0);
        Due.is("41: none", x.found(0), -1);
        Due.is("42: none", x.fillings(), 0);
        x.ban(0, false);
        x.ban(1, true);
        search("another one is banned", x, 1, 0, 0);
        Crosshatch y = square();
        y.lay(0, 0);
        y.ban(0, true);
        search("one of four is laid and banned", y, 0, 0, 0);
        y.take(0);
        search("banned alone: each of three ends on the left", y, 0, 3, 3);
    }

    // "the one with the fewest WORDS that can be taken"; of as many, the smallest slot
    private static void searchFewestFirst() {
        // Three rows that do not cross; those below have one word and two words left by letters that are told.
        Crosshatch x = GridEdgeTest.drawn("..", "..", "b.");
        for (int cell = 0; cell < 4; cell++) {
            x.bar(cell, true, true);
        }
        Due.word(x, "aa", 1);
        Due.word(x, "ab", 1);
        Due.word(x, "ba", 1);
        // The row below takes ba first; then the row above takes aa, the middle one ab.
        search("three", x, 1, 3, 0);
        Due.is("41: above", x.found(0), 0);
        Due.is("41: in the middle", x.found(1), 1);
        Due.is("41: below", x.found(2), 2);
        // By rising slots: aa, ab, ba; but with ab below, above comes aa, then the middle has ba alone.
        Crosshatch y = GridEdgeTest.drawn("..", "..", ".b");
        for (int cell = 0; cell < 4; cell++) {
            y.bar(cell, true, true);
        }
        Due.word(y, "aa", 1);
        Due.word(y, "ab", 1);
        Due.word(y, "ba", 1);
        search("below is one word alone", y, 1, 3, 0);
        Due.is("41: above", y.found(0), 0);
        Due.is("41: in the middle", y.found(1), 2);
        Due.is("41: below", y.found(2), 1);
    }

    // "behind a DEAD end it is taken back, and the next one is taken; without a next one, that is not a DEAD end"
    private static void searchDeadEnds() {
        search("no word at all", new Crosshatch(), 0, 0, 1);
        // One word for two rows: the second one has none.
        Crosshatch x = GridEdgeTest.drawn("..", "##", "..");
        Due.word(x, "aa", 1);
        search("one of two", x, 0, 1, 1);
        Due.word(x, "ab", 1);
        search("two of two", x, 1, 2, 0);
        // Two words for three rows: each of two ways ends where the third one has none, and goes back two rows.
        Crosshatch y = GridEdgeTest.drawn("..", "..", "..");
        for (int cell = 0; cell < 4; cell++) {
            y.bar(cell, true, true);
        }
        Due.word(y, "aa", 1);
        Due.word(y, "ab", 1);
        search("two of three", y, 0, 4, 2);
        y.lay(1, 1);
        search("one of two that are left", y, 0, 1, 1);
        y.letter(0, 1);
        search("none fits at first", y, 0, 0, 1);
    }

    private static void searchFound() {
        Crosshatch x = square();
        int[] first = {0, 2, 3, 1};
        int[] second = {2, 0, 1, 3};
        for (int slot = 0; slot < 4; slot++) {
            Due.is("41: the first one", x.found(slot), first[slot]);
        }
        x.letter(1, 2);
        for (int slot = 0; slot < 4; slot++) {
            Due.is("41: the other one", x.found(slot), second[slot]);
        }
        x.letter(2, 2);
        Due.is("40: none", x.search(0), 0);
        for (int slot = 0; slot < 4; slot++) {
            Due.is("41: none", x.found(slot), -1);
        }
    }

    // "the WORTHS of its WORDS, and 10 for each one that is WISHED"
    private static void values() {
        Crosshatch x = GridEdgeTest.drawn("...", "###", "...");
        x.word(0, 0, 0, -2, -2, 9);
        x.word(0, 0, 1, -2, -2, 0);
        Due.is("44: 9 + 0", x.best(true), 9);
        x.wish(1, true);
        Due.is("44: 9 + 10", x.best(true), 19);
        x.wish(0, true);
        Due.is("44: 19 + 10", x.best(true), 29);
        x.name(0, true);
        Due.is("44: a name is worth no more", x.best(true), 29);
        x.lay(0, 1);
        Due.is("44: nor is one that is laid", x.best(true), 29);
        x.wish(0, false);
        x.wish(1, false);
        x.word(0, 0, 2, -2, -2, 5);
        Due.is("44: what is not in it does not count", x.best(true), 9);
    }

    // "the first FILLING with the greatest VALUE"
    private static void bestFirst() {
        Crosshatch x = GridEdgeTest.drawn("...", "###", "...");
        x.word(0, 0, 0, -2, -2, 1);
        x.word(0, 0, 1, -2, -2, 1);
        x.word(0, 0, 2, -2, -2, 1);
        Due.is("44: all alike", x.best(false), 0);
        Due.is("44: all alike", x.best(true), 2);
        x.wish(2, true);
        Due.is("44: the first of four with it", x.best(false), 1);
        x.wish(1, true);
        Due.is("44: the first of two with both", x.best(false), 3);
        x.word(0, 0, 3, -2, -2, 9);
        Due.is("44: of two wishes", x.best(true), 22);
        x.wish(1, false);
        Due.is("44: the wish and the worth", x.best(true), 20);
        Due.is("44: the first of two", x.best(false), 8);
        x.ban(2, true);
        Due.is("44: without the wish", x.best(true), 10);
        Due.is("44: the first of four", x.best(false), 1);
    }

    private static void bestEdges() {
        Crosshatch x = GridEdgeTest.drawn("...", "###", "...");
        x.word(0, 0, 0, -2, -2, 0);
        Due.is("44: none", x.best(true), -1);
        Due.is("44: none", x.best(false), -1);
        x.word(0, 0, 1, -2, -2, 0);
        Due.is("44: worth nothing", x.best(true), 0);
        Due.is("44: the first", x.best(false), 0);
        // The last one is the best.
        Crosshatch y = GridEdgeTest.drawn("...", "###", "###");
        for (int k = 0; k < 10; k++) {
            y.word(0, k / 4, k % 4, -2, -2, k);
        }
        Due.is("44: the last one", y.best(false), 9);
        Due.is("44: its value", y.best(true), 9);
    }

    // "A letter is FORCED in a CELL that is in a SLOT, if there are FILLINGS, and all have it there."
    private static void forced() {
        Crosshatch x = GridEdgeTest.drawn("...", "###", "###");
        Due.is("27: no fillings", x.ofCell(0, 7), -1);
        Due.word(x, "abc", 1);
        int[] one = {0, 1, 2, -1, -1, -1, -1, -1, -1};
        for (int cell = 0; cell < 9; cell++) {
            Due.is("27: of one filling, " + cell, x.ofCell(cell, 7), one[cell]);
        }
        Due.word(x, "adc", 1);
        Due.is("27: of two", x.ofCell(0, 7), 0);
        Due.is("27: unlike", x.ofCell(1, 7), -1);
        Due.is("27: of two", x.ofCell(2, 7), 2);
        Due.word(x, "abd", 1);
        Due.is("27: the first and the third are alike", x.ofCell(1, 7), -1);
        Due.is("27: of three", x.ofCell(2, 7), -1);
        Due.word(x, "bbd", 1);
        Due.is("27: the last one is other", x.ofCell(0, 7), -1);
        x.letter(0, 1);
        Due.is("27: told, and forced", x.ofCell(0, 7), 1);
        x.letter(0, -1);
        x.lay(0, 1);
        Due.is("27: laid, and forced", x.ofCell(1, 7), 3);
        x.ban(1, true);
        Due.is("27: no fillings, though it is there", x.ofCell(1, 7), -1);
    }

    private static void forcedNowhere() {
        Crosshatch x = GridEdgeTest.drawn("..", "#b");
        Due.word(x, "aa", 1);
        Due.word(x, "ab", 1);
        Due.is("27: two slots, the one down has a letter", x.ofGrid(4), 2);
        Due.is("42: aa above, ab down", x.fillings(), 1);
        Due.is("27: a block", x.ofCell(2, 7), -1);
        x.bar(1, true, true);
        Due.is("42: aa or ab", x.fillings(), 2);
        Due.is("27: told in no slot", x.ofCell(3, 7), -1);
        Due.is("27: all have it", x.ofCell(0, 7), 0);
    }

    // "-8, for each CELL, if it is OPEN how many FILLINGS there are"
    private static void forcedOpen() {
        Crosshatch open = rows(11, 9, 9, 0);
        Crosshatch known = rows(10, 9, 10, 0);
        for (int cell = 0; cell < 20; cell++) {
            Due.is("27: open, " + cell, open.ofCell(cell, 7), -8);
            Due.is("27: none, " + cell, known.ofCell(cell, 7), -1);
        }
    }

    // Of the rows of 5, 4 and 2 cells two have one word. The fillings differ in the row of 5: filling 3 has bbaaa there;
    // the others aaaba, abbaa, baaaa, bbbab. 1 and 2 tell it alone; grown, 0 comes first (it leaves two, as 1 and 2 do),
    // then 1, then 2. The cell 9 is white, but in no slot.
    private static Crosshatch eleven() {
        Crosshatch made = GridEdgeTest.drawn(".....", ".....", "..###");
        for (int cell = 0; cell < 10; cell++) {
            made.bar(cell, true, true);
        }
        made.bar(8, false, true);
        for (String word : new String[] {"aaaba", "aa", "bbaaa", "baaaa", "abbaa", "abaa", "bbbab"}) {
            Due.word(made, word, 1);
        }
        return made;
    }

    // "If these are 10 at most", "Otherwise"
    private static void hintsTen() {
        Crosshatch x = eleven();
        Due.is("42: five", x.fillings(), 5);
        Due.is("45: eleven open cells", x.hints(3), 0b111);
        x.letter(9, 1);
        Due.is("45: a letter in no slot, still eleven", x.hints(3), 0b111);
        x.letter(9, -1);
        x.letter(5, 0);
        Due.is("45: ten", x.hints(3), 0b110);
        x.letter(5, -1);
        x.letter(11, 0);
        Due.is("45: ten, too", x.hints(3), 0b110);
        x.letter(11, -1);
        Due.is("45: eleven again", x.hints(3), 0b111);
        x.lay(2, 1);
        Due.is("45: nine, with a word laid", x.hints(3), 0b110);
        x.letter(3, 0);
        Due.is("42: one is ruled out", x.fillings(), 4);
        Due.is("45: and its cell is open no more", x.hints(2), 0b110);
    }

    // "those with the fewest, of these the smallest one (as a set)"
    private static void hintsFewest() {
        Crosshatch x = GridEdgeTest.drawn(".....", "#####");
        Due.word(x, "aaaaa", 1);
        Due.word(x, "baaba", 1);
        Due.word(x, "ababa", 1);
        Due.is("45: 8 alone, not 1 and 2", x.hints(0), 0b01000);
        Crosshatch y = GridEdgeTest.drawn(".....", "#####");
        Due.word(y, "aaaaa", 1);
        Due.word(y, "abbab", 1);
        Due.is("45: the smallest of three", y.hints(0), 0b00010);
        Due.word(y, "aabbb", 1);
        Due.is("45: what both differ in", y.hints(0), 0b00100);
        Due.word(y, "bbaaa", 1);
        Due.is("45: two", y.hints(0), 0b00101);
        Due.is("45: of the last one", y.hints(3), 0b00001);
    }

    // "the OPEN CELL that, with them, leaves the fewest such FILLINGS comes to them": of as many the smallest
    private static void hintsGrown() {
        Crosshatch x = eleven();
        // aaaba: the cell 0 leaves abbaa, 1 leaves baaaa, 3 none.
        Due.is("45: one is enough", x.hints(0), 0b01000);
        // abbaa: 0 leaves aaaba; 1 leaves bbaaa and bbbab; 2 leaves bbbab; 0 comes first, then 1.
        Due.is("45: two", x.hints(1), 0b00011);
        // baaaa: 0 leaves bbaaa and bbbab, 1 leaves aaaba, of which 0 is unlike.
        Due.is("45: the smaller one behind the greater one", x.hints(2), 0b00011);
        // bbbab: 4 leaves none.
        Due.is("45: the last cell", x.hints(4), 0b10000);
    }

    private static void hintsOfOne() {
        Crosshatch x = GridEdgeTest.drawn(".....", "#####");
        Due.word(x, "aaaaa", 1);
        Due.is("45: one filling", x.hints(0), 0);
        Crosshatch y = eleven();
        for (int w : new int[] {0, 3, 4, 6}) {
            y.ban(w, true);
        }
        Due.is("45: one filling, eleven open cells", y.hints(0), 0);
        Crosshatch z = GridEdgeTest.drawn("a....", "#####");
        Due.word(z, "aaaaa", 1);
        Due.word(z, "abaaa", 1);
        Due.is("45: never a cell in which a letter is", z.hints(0) + z.hints(1), 4);
    }

    // "CELLS in which two WORDS CROSS that are both NAMES; WORDS that CROSS some others, but only NAMES"
    private static void unfairEdges() {
        Crosshatch x = Due.with(2, 3, 2, "aba", "ba", "ab");
        x.block(3, true);
        x.block(5, true);
        Due.is("42: one", x.fillings(), 1);
        x.name(0, true);
        Due.is("46: one name", x.unfair(0, false), 0);
        Due.is("46: the other one crosses only names", x.unfair(0, true), 1);
        x.name(1, true);
        Due.is("46: two names", x.unfair(0, false), 1);
        Due.is("46: both cross only names", x.unfair(0, true), 2);
        x.name(0, false);
        x.name(2, true);
        Due.is("46: a name that is not in it", x.unfair(0, false), 0);
        Due.is("46: the first one crosses a name", x.unfair(0, true), 1);
        Crosshatch y = GridEdgeTest.drawn("...", "###", "...");
        Due.word(y, "aba", 1);
        Due.word(y, "bab", 1);
        y.name(0, true);
        y.name(1, true);
        Due.is("46: they cross none", y.unfair(0, true) + y.unfair(0, false), 0);
        // aba above crosses ba and aa: a name and none.
        Crosshatch z = Due.with(2, 3, 2, "aba", "ab", "aa");
        z.block(4, true);
        Due.is("42: two", z.fillings(), 2);
        z.name(1, true);
        Due.is("46: one of two is a name", z.unfair(0, true), 0);
        z.name(2, true);
        Due.is("46: both are names", z.unfair(0, true), 1);
        Due.is("46: but it is not", z.unfair(0, false), 0);
        z.name(0, true);
        Due.is("46: all are names", z.unfair(1, true), 3);
        Due.is("46: two cells", z.unfair(1, false), 2);
    }

    // "Otherwise kind 2: the smallest CELL in which no letter is THERE, but one is FORCED"
    private static void stepForced() {
        Crosshatch x = square();
        Due.is("47: kind 2", x.nextStep(0), 2);
        Due.is("47: the smaller of two cells", x.nextStep(1), 0);
        x.letter(0, 0);
        Due.is("47: kind 1 ahead of kind 2", x.nextStep(0), 1);
        x.letter(3, 0);
        Due.is("47: both are there, nothing else is forced", x.nextStep(0), 0);
        Due.is("27: but they are forced still", x.ofCell(0, 7) + x.ofCell(3, 7), 0);
        Crosshatch y = square();
        y.ban(0, true);
        Due.is("42: no filling", y.fillings(), 0);
        Due.is("47: no step", y.nextStep(0), 0);
        Due.is("47: no cell", y.nextStep(1), -1);
        Due.is("47: no letter", y.nextStep(2), -1);
    }

    // Two rows of two take both words that end with b, so that the third one has to end with a; what is more makes it
    // open, or not, how many fillings there are.
    private static Crosshatch ended(int fives, int fours) {
        Crosshatch made = GridEdgeTest.drawn(".b###", ".b###", "..###", ".....", "....#");
        for (int cell = 0; cell < 20; cell++) {
            made.bar(cell, true, true);
        }
        Due.word(made, "ab", 1);
        Due.word(made, "bb", 1);
        Due.word(made, "aa", 1);
        for (int k = 0; k < fives; k++) {
            made.word(k / 4, k % 4, 0, 0, 1, 1);
        }
        for (int k = 0; k < fours; k++) {
            made.word(k / 4, k % 4, 0, 1, -2, 1);
        }
        return made;
    }

    // "(unless it is OPEN how many FILLINGS there are)": 2 + 2 + 2 tries for the rows of two, then 2 * (k + k * n).
    private static void stepOpen() {
        Crosshatch x = ended(13, 13);
        Due.is("42: 6 + 26 + 338 tries", x.fillings(), 338);
        Due.is("47: kind 1: the last letters", x.nextStep(0), 1);
        Due.is("17: of fives and fours", x.step() + x.step() + x.step() + x.step() + x.step(), 5);
        Due.is("17: drawn", Due.drawn(x), ".b###;.b###;..###;..aab;..ab#;");
        Due.is("47: kind 2", x.nextStep(0), 2);
        Due.is("47: the first cell of the third row", x.nextStep(1), 10);
        Crosshatch y = FillingTest.product(11, 9, 9);
        for (int k = 0; k < 4; k++) {
            y.step();
        }
        Due.is("42: open", y.fillings(), -8);
        Due.is("47: kind 0", y.nextStep(0), 0);
        Due.is("47: no cell", y.nextStep(1), -1);
        Due.is("47: no letter", y.nextStep(2), -1);
    }

    // The greatest grid, with as many slots as there can be, each with a word of its own.
    private static void twentySlots() {
        String[] twos = {"ab", "fg", "af", "bg", "ch", "da", "ec", "bd", "hc", "ea"};
        String[] threes = {"cde", "hac", "bhe", "dca", "ega", "fbd", "ghf", "efg", "gbh", "adf"};
        Crosshatch x = new Crosshatch();
        x.alphabet(8);
        Due.type(x, "abcde;fghac;bdega;hcfbd;eaghf;");
        x.read();
        for (int k = 0; k < 5; k++) {
            x.bar(5 * k + 1, false, true);
            x.bar(5 + k, true, true);
        }
        for (int k = 0; k < 10; k++) {
            Due.word(x, twos[k], 9);
            Due.word(x, threes[k], 9);
        }
        Due.is("28: twenty", x.ofGrid(4), 20);
        Due.is("42: one", x.fillings(), 1);
        search("twenty", x, 1, 20, 0);
        for (int slot = 0; slot < 20; slot++) {
            String letters = x.clue(slot).split(" ")[1];
            Due.is("43: slot " + slot, x.text(x.filling(0, slot)), letters);
            Due.is("41: slot " + slot, x.text(x.found(slot)), letters);
        }
        for (int w = 0; w < 20; w++) {
            x.wish(w, true);
            x.name(w, true);
        }
        Due.is("44: twenty of 19", x.best(true), 380);
        Due.is("46: all cells", x.unfair(0, false), 25);
        Due.is("46: all words", x.unfair(0, true), 20);
        x.letter(24, -1);
        Due.is("42: still one", x.fillings(), 1);
        Due.is("27: the last letter is forced", x.ofCell(24, 7), 5);
        Due.is("47: kind 1", x.nextStep(0), 1);
        Due.is("47: the last cell", x.nextStep(1), 24);
        Due.is("47: its letter", x.nextStep(2), 5);
        for (int slot = 0; slot < 20; slot++) {
            x.lay(slot, x.found(slot));
        }
        Due.is("26: all are laid", x.ofGrid(6), 20);
        search("all are laid", x, 1, 0, 0);
        Due.is("42: still one", x.fillings(), 1);
        x.ban(x.ofSlot(19, 4), true);
        search("the last one is banned", x, 0, 0, 0);
        Due.is("42: none", x.fillings(), 0);
    }

    // All words there can be fit one slot.
    private static void thirtyWords() {
        Crosshatch x = RefusedTest.many(30);
        x.grid(5, 2);
        x.block(6, true);
        x.block(8, true);
        for (int cell = 0; cell < 5; cell++) {
            x.bar(cell, true, true);
        }
        Due.is("28: thirty fit", x.ofSlot(0, 5), 30);
        Due.is("28: thirty are left", x.ofSlot(0, 6), 30);
        Due.is("42: thirty", x.fillings(), 30);
        search("the first of thirty", x, 1, 1, 0);
        Due.is("41: the first of thirty", x.found(0), 0);
        Due.is("44: the first one of worth 9", x.best(false), 9);
        Due.is("43: the last one", x.filling(29, 0), 29);
        Due.is("45: the last one", Integer.bitCount(x.hints(29)), 3);
    }

    private static void lastCell() {
        // Rows of two at the right edge: the two above take what ends with b, so that the last one has to be aa.
        Crosshatch x = GridEdgeTest.drawn("#####", "#####", "###.b", "###.b", "###a.");
        for (int cell : new int[] {13, 14, 18, 19}) {
            x.bar(cell, true, true);
        }
        Due.word(x, "ab", 1);
        Due.word(x, "bb", 1);
        Due.word(x, "aa", 1);
        Due.is("27: forced in the last cell", x.ofCell(24, 7), 0);
        Due.is("47: kind 2", x.nextStep(0), 2);
        Due.is("47: the last cell", x.nextStep(1), 24);
        Due.is("45: the second of two fillings", x.hints(1), 1 << 13);
        Crosshatch y = GridEdgeTest.drawn("#####", "#####", "#####", "#####", "aaaa.");
        Due.word(y, "aaaaa", 1);
        Due.word(y, "aaaab", 1);
        Due.is("45: the last cell tells it", y.hints(0), 1 << 24);
        // Twelve open cells, but the fillings are unlike in the last one alone.
        Crosshatch z = GridEdgeTest.drawn("#####", "#####", "a....", "b....", "c....");
        for (int cell = 10; cell < 20; cell++) {
            z.bar(cell, true, true);
        }
        for (String word : new String[] {"aaaaa", "bbbbb", "ccccc", "ccccb"}) {
            Due.word(z, word, 1);
        }
        Due.is("42: two", z.fillings(), 2);
        Due.is("45: the last cell, grown", z.hints(0), 1 << 24);
        Due.is("45: the last cell, grown", z.hints(1), 1 << 24);
    }
}

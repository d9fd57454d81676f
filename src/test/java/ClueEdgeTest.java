import java.math.BigInteger;
import java.util.Arrays;
import java.util.List;
import java.util.function.Supplier;

/** The edges of part 5 of the description (clues, squares, rings, papers) and of promises 18 to 21, 48 to 55. */
public final class ClueEdgeTest {
    private ClueEdgeTest() {
    }

    public static void main(String[] args) {
        hiddenInEach();
        hiddenInItself();
        hiddenInLong();
        rearrangedEdges();
        squareEdges();
        squaresOfFour();
        ringEdges();
        ringOrder();
        paperRows();
        paperLetters();
        paperLength();
        faultStays();
        readKeeps();
        readFaults();
        readTwice();
        keepCopies();
        compareNone();
        compareSizes();
        compareCells();
        compareSlots();
        compareAll();
        fewestTable();
        fewestOfBlocks();
        fewestOfBars();
        fewestOfChecked();
        soundAlways();
        soundOpen();
        soundOpenSearch();
        soundLateSearch();
        digestOfNew();
        digestOfEach();
        Due.end();
    }

    private static String sorted(String text) {
        char[] letters = text.toCharArray();
        Arrays.sort(letters);
        return new String(letters);
    }

    private static String everySecond(String text, int from) {
        StringBuilder second = new StringBuilder();
        for (int i = from; i < text.length(); i += 2) {
            second.append(text.charAt(i));
        }
        return second.toString();
    }

    private static int kinds(String a, String b) {
        int kinds = new StringBuilder(b).reverse().toString().equals(a) ? 1 : 0;
        kinds += b.contains(a) && a.length() < b.length() ? 2 : 0;
        kinds += everySecond(b, 0).equals(a) || everySecond(b, 1).equals(a) ? 4 : 0;
        return kinds + (sorted(a).equals(sorted(b)) && !a.equals(b) ? 8 : 0);
    }

    // All words of 2 to 4 letters "a" and "b", each in each.
    private static void hiddenInEach() {
        String[] texts = new String[28];
        int many = 0;
        for (int length = 2; length <= 4; length++) {
            for (int k = 0; k < 1 << length; k++) {
                StringBuilder text = new StringBuilder();
                for (int i = 0; i < length; i++) {
                    text.append((char) ('a' + (k >> i & 1)));
                }
                texts[many++] = text.toString();
            }
        }
        for (int word = 0; word < many; word++) {
            Crosshatch x = Due.with(2, 3, 3, texts);
            for (int other = 0; other < many; other++) {
                Due.is("48: " + texts[word] + " in " + texts[other], x.hidden(word, other),
                        kinds(texts[word], texts[other]));
            }
        }
    }

    // "(a WORD that reads so both ways, in itself, too)"
    private static void hiddenInItself() {
        String[] texts = {"aa", "ab", "aba", "abb", "abba", "abab", "abcba", "abcab", "aaaaa"};
        int[] want = {1, 0, 1, 0, 1, 0, 1, 0, 1};
        Crosshatch x = Due.with(3, 3, 3, texts);
        for (int w = 0; w < texts.length; w++) {
            Due.is("48: " + texts[w] + " in itself", x.hidden(w, w), want[w]);
        }
    }

    private static void hiddenInLong() {
        String[][] pairs = {{"abc", "abcde"}, {"bcd", "abcde"}, {"cde", "abcde"}, {"abcd", "abcde"}, {"bcde", "abcde"},
            {"ace", "abcde"}, {"bd", "abcde"}, {"ad", "abcde"}, {"ae", "abcde"}, {"ce", "abcde"}, {"edcba", "abcde"},
            {"abced", "abcde"}, {"abcde", "abc"}, {"ab", "abcde"}, {"de", "abcde"}, {"abd", "abcde"},
            {"ca", "abcde"}, {"abcde", "edcba"}, {"aabbc", "abcab"}, {"aabbc", "abcac"}, {"ab", "babab"},
            {"ac", "abcde"}, {"bc", "abcde"}, {"ce", "abcde"}, {"aa", "abaca"}, {"aac", "abaca"}, {"bc", "abaca"}};
        int[] want = {2, 2, 2, 2, 2, 4, 4, 0, 0, 0, 9, 8, 0, 2, 2, 0, 0, 9, 8, 0, 2, 0, 2, 0, 0, 0, 4};
        for (int k = 0; k < pairs.length; k++) {
            Crosshatch x = Due.with(5, 3, 3, pairs[k]);
            Due.is("48: " + pairs[k][0] + " in " + pairs[k][1], x.hidden(0, 1), want[k]);
        }
    }

    // Promise 49: "all other WORDS with just its letters, by ORDER .. "" without any"
    private static void rearrangedEdges() {
        Crosshatch x = Due.with(3, 3, 3, "cba", "abc", "bca", "aab", "ab", "abca", "abb", "ccc", "ba");
        String[] want = {"1 2", "2 0", "1 0", "", "8", "", "", "", "4"};
        for (int w = 0; w < want.length; w++) {
            Due.is("49: " + x.text(w), x.rearranged(w), want[w]);
        }
        x.ban(1, true);
        x.ban(0, true);
        Due.is("49: banned ones, too", x.rearranged(2), "1 0");
        Due.is("49: of a banned one", x.rearranged(0), "1 2");
        Crosshatch y = RefusedTest.many(29);
        y.word(3, 0, 0, 0, 0, 1);
        Due.is("49: daaaa, of which aaaad and aaada are others", y.rearranged(29), "3 12");
        Due.is("49: aaaad", y.rearranged(3), "12 29");
    }

    // "a row of n unlike WORDS of n letters, none BANNED"
    private static void squareEdges() {
        Due.is("50: without words", new Crosshatch().squares(2), 0);
        Due.is("50: aa alone", Due.with(2, 3, 3, "aa").squares(2), 0);
        Due.is("50: aa over ab, which has to begin so", Due.with(2, 3, 3, "aa", "ab").squares(2), 1);
        Due.is("50: ab over ba, ba over ab", Due.with(2, 3, 3, "ab", "ba").squares(2), 2);
        Due.is("50: ab over bb", Due.with(2, 3, 3, "ab", "bb").squares(2), 1);
        Due.is("50: ab over ac is none", Due.with(3, 3, 3, "ab", "ac").squares(2), 0);
        Crosshatch x = Due.with(2, 3, 3, "ab", "ba", "aba", "bab", "abab");
        Due.is("50: of two", x.squares(2), 2);
        Due.is("50: of three: aba twice is none", x.squares(3), 0);
        Due.is("50: of four", x.squares(4), 0);
        x.ban(1, true);
        Due.is("50: one is banned", x.squares(2), 0);
        x.ban(1, false);
        x.lay(0, 2);
        x.name(0, true);
        Due.is("50: laid or named does not matter", x.squares(2), 2);
        Crosshatch y = Due.with(4, 3, 3, "abc", "bad", "cda");
        Due.is("50: of three: abc bad cda, and the three with one of them first", y.squares(3), 1);
        Due.word(y, "cdb", 1);
        Due.is("50: two last ones", y.squares(3), 2);
    }

    private static void squaresOfFour() {
        Crosshatch x = Due.with(8, 3, 3, "abcd", "befg", "cfha", "dgab");
        Due.is("50: of four", x.squares(4), 1);
        Due.is("50: of three", x.squares(3), 0);
        Due.word(x, "dgah", 1);
        Due.is("50: two last ones", x.squares(4), 2);
        Due.word(x, "dhab", 1);
        Due.is("50: the last one crosses the second", x.squares(4), 2);
        x.ban(1, true);
        Due.is("50: the second one is banned", x.squares(4), 0);
    }

    // "n unlike WORDS, none BANNED, each of which ends with the letter with which the next one begins"
    private static void ringEdges() {
        Due.is("51: without words", new Crosshatch().rings(2) + new Crosshatch().rings(3), 0);
        Due.is("51: aa alone", Due.with(2, 3, 3, "aa").rings(2), 0);
        Due.is("51: aa alone, of three", Due.with(2, 3, 3, "aa").rings(3), 0);
        Due.is("51: two, of three", Due.with(2, 3, 3, "aa", "aba").rings(3), 0);
        Due.is("51: ab ba", Due.with(2, 3, 3, "ab", "ba").rings(2), 1);
        Due.is("51: ba ab", Due.with(2, 3, 3, "ba", "ab").rings(2), 1);
        Due.is("51: ab bc", Due.with(3, 3, 3, "ab", "bc").rings(2), 0);
        Due.is("51: of any length", Due.with(3, 3, 3, "abcab", "bca").rings(2), 1);
        Due.is("51: aab a, the last letter counts", Due.with(3, 3, 3, "aab", "bcc", "bca").rings(2), 1);
        for (int banned = 0; banned < 3; banned++) {
            Crosshatch x = Due.with(3, 3, 3, "ab", "bc", "ca");
            Due.is("51: of three", x.rings(3), 1);
            x.ban(banned, true);
            Due.is("51: one is banned", x.rings(3), 0);
            Crosshatch y = Due.with(3, 3, 3, "aa", "aba", "abba");
            Due.is("51: three of two", y.rings(2), 3);
            y.ban(banned, true);
            Due.is("51: one of two", y.rings(2), 1);
            Due.is("51: none of three", y.rings(3), 0);
        }
    }

    // "the one with the smallest number stands first (the same ones in another order are another RING)"
    private static void ringOrder() {
        String[][] orders = {{"ab", "bc", "ca"}, {"ab", "ca", "bc"}, {"bc", "ab", "ca"}, {"bc", "ca", "ab"},
            {"ca", "ab", "bc"}, {"ca", "bc", "ab"}};
        for (String[] words : orders) {
            Due.is("51: told once, in any order", Due.with(3, 3, 3, words).rings(3), 1);
        }
        Due.is("51: both ways round", Due.with(2, 3, 3, "aa", "aba", "abba").rings(3), 2);
        // Of four words that all go to each other: 6 pairs, 4 threes two ways round.
        Crosshatch x = Due.with(2, 3, 3, "aa", "aba", "abba", "aaa");
        Due.is("51: pairs of four", x.rings(2), 6);
        Due.is("51: threes of four", x.rings(3), 8);
    }

    private static void fault(String paper, int want) {
        Crosshatch x = new Crosshatch();
        Due.type(x, paper);
        Due.is("33: fault of " + paper, x.house(4), want);
    }

    // "It tells 2 to 5 rows, each of as many CELLS (2 to 5, all rows alike) and a ";" behind"
    private static void paperRows() {
        fault("", 0);
        fault(";", 0);
        fault(".;", 1);
        String row = ".";
        for (int wide = 2; wide <= 5; wide++) {
            row += ".";
            fault(row, wide);
            fault(row + ";", wide + 1);
            fault(row + ";;", wide + 1);
            for (int less = 1; less < wide; less++) {
                fault(row + ";" + row.substring(0, less), wide + 1 + less);
                fault(row + ";" + row.substring(0, less) + ";", wide + 1 + less);
            }
            fault(row + ";" + row, 2 * wide + 1);
            fault(row + ";" + row + ".", 2 * wide + 1);
            String paper = row + ";";
            for (int high = 2; high <= 5; high++) {
                paper += row + ";";
                fault(paper, -1);
                if (high < 5) {
                    fault(paper + ".", high * (wide + 1) + 1);
                    fault(paper + ";", high * (wide + 1));
                } else if (wide < 5) {
                    fault(paper + ".", 5 * (wide + 1));
                    fault(paper + ";", 5 * (wide + 1));
                    fault(paper + "#", 5 * (wide + 1));
                    fault(paper + "a", 5 * (wide + 1));
                }
            }
        }
        fault(".....", 5);
        fault("......", 5);
        fault(".....#", 5);
        fault(".....a", 5);
        fault("##;##;", -1);
    }

    // "a letter of the ALPHABET"
    private static void paperLetters() {
        for (int letters = 2; letters <= 8; letters++) {
            for (int letter = 0; letter < 8; letter++) {
                Crosshatch x = new Crosshatch();
                x.alphabet(letters);
                Due.type(x, "..;.");
                x.type(letter);
                x.type(10);
                Due.is("33: letter " + letter + " of " + letters, x.house(4), letter < letters ? -1 : 4);
            }
        }
        Crosshatch y = new Crosshatch();
        Due.type(y, "h.;..;");
        Due.is("33: not of four", y.house(4), 0);
        Due.is("20: so it is not read", y.read(), -7);
        y.alphabet(8);
        Due.is("33: of eight", y.house(4), -1);
        y.read();
        Due.is("20: read", Due.drawn(y), "h.;..;");
        y.undo();
        y.alphabet(7);
        Due.is("33: not of seven", y.house(4), 0);
        y.undo();
        Due.is("33: of eight again", y.house(4), -1);
    }

    // "a row of at most 30 SIGNS": the greatest grid just stands on it.
    private static void paperLength() {
        Crosshatch x = new Crosshatch();
        Due.type(x, "a....;.b...;..c..;...d.;....#");
        Due.is("33: one is missing", x.house(4), 29);
        Due.is("20: not read", x.read(), -7);
        Due.is("18: the thirtieth", x.type(10), 30);
        Due.is("33: no fault", x.house(4), -1);
        Due.is("20: read", x.read(), 10);
        Due.is("20: drawn", Due.drawn(x), "a....;.b...;..c..;...d.;....#;");
        Due.is("19: thirty", x.wipe(), 30);
        Due.is("19: none", x.wipe(), 0);
        Due.is("18: the first", x.type(9), 1);
        Due.is("33: a new one", x.house(3), 1);
    }

    // "the place of the first SIGN that can not stand there": what comes behind it does not mend it.
    private static void faultStays() {
        Crosshatch x = new Crosshatch();
        Due.type(x, "..;.;");
        Due.is("33: too short a row", x.house(4), 4);
        Due.type(x, ".;..;");
        Due.is("33: still", x.house(4), 4);
        x.wipe();
        Due.is("33: wiped", x.house(4), 0);
        Due.type(x, "..;..;");
        Due.is("33: no fault", x.house(4), -1);
    }

    // Promise 20: "without BARS and CHECKED CELLS; SHORTEST stays, the PAPER, too"
    private static void readKeeps() {
        Crosshatch x = Due.with(3, 2, 2, "ab", "ca", "ac");
        x.shortest(3);
        x.ban(1, true);
        x.wish(2, true);
        x.name(0, true);
        x.bar(0, false, true);
        x.bar(0, true, true);
        x.check(0, true);
        x.check(3, true);
        x.letter(2, 1);
        Due.type(x, "c#;..;..;");
        Due.is("20: slots", x.read(), 4);
        Due.is("20: drawn", Due.drawn(x), "c#;..;..;");
        Due.is("20: no bars", x.ofGrid(3), 0);
        for (int cell = 0; cell < 6; cell++) {
            Due.is("20: not checked", x.ofCell(cell, 6), 0);
        }
        Due.is("20: shortest stays", x.ofGrid(7), 3);
        Due.is("20: the paper stays", x.house(3), 9);
        Due.is("20: words stay", x.house(1), 3);
        Due.is("20: marks stay", x.ofWord(1, 2) + x.ofWord(2, 3) + x.ofWord(0, 4), 3);
        Due.is("20: the alphabet stays", x.house(0), 3);
        x.undo();
        Due.is("24: bars again", x.ofGrid(3), 2);
        Due.is("24: checked again", x.ofCell(0, 6) + x.ofCell(3, 6), 2);
        Due.is("24: drawn", Due.drawn(x), "..;b.;");
        Due.is("24: the paper stays", x.house(3), 9);
    }

    // "-7 if there is a FAULT (nothing changes then)"
    private static void readFaults() {
        String[] papers = {"", "..;", "..;..", "..;.;", ";", "..;..;.", "..;..;;", "..;.d;"};
        for (String paper : papers) {
            Due.idle("20: " + paper, () -> {
                Crosshatch made = RefusedTest.full();
                made.wipe();
                Due.type(made, paper);
                return made;
            }, -7, Crosshatch::read);
        }
        Due.is("20: full() has no fault", RefusedTest.full().read(), 3);
    }

    private static void readTwice() {
        Crosshatch x = new Crosshatch();
        Due.type(x, ".a;#.;");
        Due.is("20: first", x.read(), 2);
        Due.is("20: again", x.read(), 2);
        Due.is("20: two changes", x.house(5), 2);
        x.letter(0, 1);
        Due.is("20: once more", x.read(), 2);
        Due.is("20: as on the paper", Due.drawn(x), ".a;#.;");
    }

    // Promise 21: what is kept is not changed by what the grid becomes.
    private static void keepCopies() {
        Crosshatch x = GridEdgeTest.drawn("a..", ".#.", "...");
        x.bar(0, false, true);
        Due.is("21: cells", x.keep(), 9);
        x.bar(0, false, false);
        Due.is("53: the bar is gone here", x.compare(2), 0);
        x.bar(0, false, true);
        Due.is("53: alike", x.compare(2), 1);
        x.letter(0, 1);
        Due.is("53: another letter here", x.compare(0), 1);
        x.block(4, false);
        Due.is("53: and a white cell", x.compare(0), 2);
        x.grid(2, 2);
        x.undo();
        x.undo();
        x.undo();
        Due.is("53: alike again", x.compare(2), 1);
        Due.is("21: kept anew", x.keep(), 9);
        Due.is("33: kept", x.house(7), 1);
    }

    // Promise 53: "NONE, if none is KEPT"
    private static void compareNone() {
        Crosshatch x = new Crosshatch();
        for (int what = 0; what <= 2; what++) {
            Due.is("53: none", x.compare(what), -1);
        }
        Due.is("33: none is kept", x.house(7), 0);
        x.keep();
        Due.is("53: one is", x.compare(2), 1);
    }

    // "only one has them"
    private static void compareSizes() {
        int[][] sizes = {{3, 3, 0, 6}, {2, 3, 3, 2}, {3, 2, 3, 2}, {2, 2, 5, 0}, {4, 3, 3, 3}, {3, 4, 3, 3}, {4, 4, 7, 0},
            {5, 5, 16, 0}, {5, 2, 7, 0}, {2, 5, 7, 0}};
        for (int[] size : sizes) {
            Crosshatch x = new Crosshatch();
            x.keep();
            x.grid(size[0], size[1]);
            Due.is("53: cells of " + size[0] + " by " + size[1], x.compare(0), size[2]);
            Due.is("53: slots of " + size[0] + " by " + size[1], x.compare(1), size[3]);
            Due.is("53: alike", x.compare(2), size[2] == 0 ? 1 : 0);
            Crosshatch y = new Crosshatch();
            y.grid(size[0], size[1]);
            y.keep();
            y.grid(3, 3);
            Due.is("53: cells, the other way", y.compare(0), size[2]);
            Due.is("53: slots, the other way", y.compare(1), size[3]);
        }
        Crosshatch z = new Crosshatch();
        z.grid(3, 2);
        z.keep();
        z.grid(2, 3);
        Due.is("53: as many cells, but others", z.compare(0), 4);
        Due.is("53: none of its slots", z.compare(1), 0);
        Due.is("53: unlike", z.compare(2), 0);
    }

    // "or one has a BLOCK or a TOLD letter that the other has not there"
    private static void compareCells() {
        Crosshatch x = GridEdgeTest.drawn("a#.", "...", "...");
        Due.word(x, "abc", 1);
        x.keep();
        Due.is("53: alike", x.compare(0), 0);
        x.letter(0, -1);
        Due.is("53: a letter there", x.compare(0), 1);
        x.letter(0, 1);
        Due.is("53: unlike letters", x.compare(0), 1);
        x.block(0, true);
        Due.is("53: a letter there, a block here", x.compare(0), 1);
        x.block(1, false);
        Due.is("53: and a block there", x.compare(0), 2);
        x.letter(1, 0);
        Due.is("53: and a letter here", x.compare(0), 2);
        x.block(8, true);
        x.letter(7, 0);
        Due.is("53: four", x.compare(0), 4);
        Crosshatch y = new Crosshatch();
        Due.word(y, "abc", 1);
        y.keep();
        y.lay(0, 0);
        y.check(5, true);
        y.shortest(5);
        Due.is("53: what is laid is not told", y.compare(0) * 10 + y.compare(2), 1);
        y.keep();
        y.take(0);
        Due.is("53: nor was it kept", y.compare(0) * 10 + y.compare(2), 1);
        y.bar(4, true, true);
        Due.is("53: bars are not in cells", y.compare(0) * 10 + y.compare(2), 0);
    }

    // "(the same CELLS by row and column, the same direction)"
    private static void compareSlots() {
        Crosshatch x = GridEdgeTest.drawn("...#", "....", "....");
        x.keep();
        x.grid(3, 3);
        Due.is("53: the row above and three columns", x.compare(1), 4);
        x.letter(0, 1);
        Due.is("53: letters do not matter", x.compare(1), 4);
        x.bar(0, false, true);
        Due.is("53: its begin is cut off", x.compare(1), 3);
        x.bar(0, false, false);
        x.bar(1, false, true);
        Due.is("53: its end is cut off", x.compare(1), 3);
        Crosshatch y = GridEdgeTest.drawn("..", "##");
        y.keep();
        y.block(2, false);
        y.block(1, true);
        Due.is("53: down is not across", y.ofGrid(4) * 10 + y.compare(1), 10);
        Crosshatch z = GridEdgeTest.drawn("##", "##");
        z.keep();
        Due.is("53: no slots", z.compare(1), 0);
        z.grid(2, 2);
        Due.is("53: none there", z.compare(1), 0);
    }

    // "1 if both are alike in size, BLOCKS, BARS and TOLD letters"
    private static void compareAll() {
        Crosshatch x = new Crosshatch();
        x.bar(4, false, true);
        x.keep();
        Due.is("53: alike", x.compare(2), 1);
        x.bar(4, false, false);
        x.bar(4, true, true);
        Due.is("53: a bar below, not on the right", x.compare(2), 0);
        x.bar(4, false, true);
        Due.is("53: a bar more", x.compare(2), 0);
        x.bar(4, true, false);
        Due.is("53: alike again", x.compare(2), 1);
        x.letter(8, 0);
        Due.is("53: a letter more", x.compare(2), 0);
        x.letter(8, -1);
        x.block(8, true);
        Due.is("53: a block more", x.compare(2), 0);
        x.undo();
        Due.is("53: alike again", x.compare(2), 1);
    }

    // By SHORTEST and the greatest length, of all sizes that may be asked for; counted by a program of its own.
    private static void fewestTable() {
        int[][] sizes = {{2, 2}, {3, 3}, {4, 3}, {3, 4}, {5, 3}, {3, 5}, {4, 4}, {5, 2}, {2, 5}};
        int[][] want = {{0, 0, 0, 0, 4, 4, 4, 4, 4, 4, 4, 4, 4, 4, 4, 4},
            {8, 0, 0, 0, 8, 0, 0, 0, 8, 8, 8, 8, 8, 8, 8, 8}, {6, 4, 0, 0, 12, 12, 0, 0, 12, 12, 8, 8, 12, 12, 12, 12},
            {6, 4, 0, 0, 12, 12, 0, 0, 12, 12, 8, 8, 12, 12, 12, 12},
            {14, 4, 3, 0, 14, 4, 4, 0, 14, 14, 14, 10, 14, 14, 14, 10},
            {14, 4, 3, 0, 14, 4, 4, 0, 14, 14, 14, 10, 14, 14, 14, 10},
            {12, 4, 0, 0, 16, 8, 0, 0, 16, 16, 0, 0, 16, 16, 16, 16},
            {6, 2, 2, 0, 10, 10, 10, 10, 10, 10, 10, 10, 10, 10, 10, 10},
            {6, 2, 2, 0, 10, 10, 10, 10, 10, 10, 10, 10, 10, 10, 10, 10}};
        for (int k = 0; k < sizes.length; k++) {
            Crosshatch x = new Crosshatch();
            x.grid(sizes[k][0], sizes[k][1]);
            for (int least = 2; least <= 5; least++) {
                x.shortest(least);
                for (int most = 2; most <= 5; most++) {
                    Due.is("52: " + sizes[k][0] + " by " + sizes[k][1] + ", " + least + " to " + most, x.fewest(most),
                            want[k][4 * (least - 2) + most - 2]);
                }
            }
        }
    }

    // "How many BLOCKS at least have to come": those that are there do not count, and stay.
    private static void fewestOfBlocks() {
        Crosshatch x = GridEdgeTest.drawn(".#.", "...", "...");
        Due.is("52: its partner", x.fewest(3), 1);
        Due.is("52: all but the middle", x.fewest(2), 7);
        x.block(1, false);
        x.block(4, true);
        Due.is("52: nothing", x.fewest(3), 0);
        Due.is("52: all others", x.fewest(2), 8);
        Crosshatch y = GridEdgeTest.drawn("aaa", "aaa", "aaa");
        Due.is("52: where letters are, too", y.fewest(2), 8);
        Due.is("52: the letters stay", y.ofGrid(5), 9);
        Crosshatch z = GridEdgeTest.drawn("##", "##");
        Due.is("52: all are blocks", z.fewest(2), 0);
        z.block(0, false);
        Due.is("52: one is white, its partner not", z.fewest(2), 1);
    }

    private static void fewestOfBars() {
        Crosshatch x = new Crosshatch();
        x.grid(4, 3);
        x.bar(5, false, true);
        int[] want = {12, 2, 0};
        for (int most = 2; most <= 4; most++) {
            Due.is("52: a bar that is its own partner, " + most, x.fewest(most), want[most - 2]);
        }
        x.bar(1, false, true);
        Due.is("52: one without its partner", x.fewest(4), -1);
        x.bar(9, false, true);
        for (int most = 2; most <= 5; most++) {
            Due.is("52: two halves", x.fewest(most), 12);
        }
        Crosshatch y = new Crosshatch();
        for (int cell = 0; cell < 6; cell++) {
            y.bar(cell, true, true);
        }
        Due.is("52: rows that do not hang together", y.fewest(3), 6);
        Due.is("52: nor are longer than two", y.fewest(2), 8);
    }

    private static void fewestOfChecked() {
        Crosshatch x = new Crosshatch();
        x.check(0, true);
        Due.is("52: all is so", x.fewest(3), 0);
        Due.is("52: it can not be", x.fewest(2), -1);
        x.check(0, false);
        x.check(4, true);
        Due.is("52: the middle has to be in two slots", x.fewest(2), -1);
        x.check(4, false);
        Due.is("52: it alone can stay", x.fewest(2), 8);
        x.block(0, true);
        x.check(8, true);
        Due.is("52: its partner has to be a block", x.fewest(3), -1);
    }

    // Promise 54: all that it asks for follows from the document, so that it is so in each state.
    private static void soundAlways() {
        Crosshatch[] all = {new Crosshatch(), RefusedTest.full(), RefusedTest.many(30), GridEdgeTest.drawn("##", "##"),
            GridEdgeTest.drawn("#.", ".."), GridEdgeTest.drawn("a.", ".b"), Due.with(2, 2, 2, "aa"),
            Due.with(3, 2, 2, "ab", "ca", "ac", "ba"), FillingTest.product(10, 9, 10), FillingTest.product(11, 9, 9)};
        for (Crosshatch x : all) {
            Due.is("54: sound", x.isSound(), true);
            x.bar(0, true, true);
            Due.is("54: with a bar", x.isSound(), true);
            x.block(1, true);
            Due.is("54: with a block", x.isSound(), true);
            if (x.house(1) > 0) {
                x.ban(0, true);
                Due.is("54: with a banned word", x.isSound(), true);
            }
        }
    }

    // It is open how many fillings there are, and 1000 tries have come to none, but a search has found one: the column
    // on the left has three words, of which the last one alone ends as the row below begins.
    private static void soundOpen() {
        Crosshatch x = GridEdgeTest.drawn(".####", ".....", "....#", "...##", "....b");
        for (int cell : new int[] {5, 10, 15}) {
            x.bar(cell, false, true);
        }
        for (int cell : new int[] {6, 7, 8, 9, 11, 12, 13, 16, 17}) {
            x.bar(cell, true, true);
        }
        for (String word : new String[] {"aaaaa", "aaaba", "bbbbd", "dbbbb"}) {
            Due.word(x, word, 1);
        }
        for (int k = 0; k < 26; k++) {
            int c = k < 19 ? 0 : -2;
            x.word(k % 10 / 4, k % 10 % 4, c, k < 10 ? 0 : -2, -2, 1);
        }
        Due.is("28: slots", x.ofGrid(4), 5);
        Due.is("42: open", x.fillings(), -8);
        Due.is("40: found", x.search(0), 1);
        Due.is("40: one try a slot", x.search(1), 5);
        Due.is("54: sound", x.isSound(), true);
        x.letter(20, 3);
        for (int word = 26; word < 30; word++) {
            x.ban(word, true);
        }
        Due.is("42: the column ends with d, and there are less words", x.fillings(), 10 * 9 * 3);
        Due.is("54: sound", x.isSound(), true);
    }

    // "a SEARCH that is not OPEN": one that is may be told with no filling at all. The row above and the column on the
    // left have 8 words each, none of which agree; the search takes the six rows of two first, that have 7.
    private static Crosshatch openSearch() {
        Crosshatch x = GridEdgeTest.drawn(".....", ".....", ".....", ".....");
        for (int cell = 1; cell < 15; cell++) {
            if (cell % 5 > 0) {
                x.bar(cell, true, true);
            }
        }
        for (int cell : new int[] {5, 7, 10, 12, 15, 17}) {
            x.bar(cell, false, true);
        }
        for (int k = 0; k < 8; k++) {
            x.word(0, k / 4, k % 4, 0, 0, 1);
            x.word(1, k / 4, k % 4, 0, -2, 1);
        }
        for (int k = 0; k < 7; k++) {
            x.word(k / 4, k % 4, -2, -2, -2, 1);
        }
        return x;
    }

    private static void soundOpenSearch() {
        Crosshatch x = openSearch();
        Due.is("28: slots", x.ofGrid(4), 8);
        Due.is("42: 8 tries, and no filling", x.fillings(), 0);
        Due.is("40: open", x.search(0), -8);
        Due.is("40: tries", x.search(1), 1000);
        Due.is("40: dead ends, counted by a program of its own", x.search(2), 820);
        Due.is("41: none", x.found(0), -1);
        Due.is("54: sound", x.isSound(), true);
        Due.is("55: digest", x.digest(), ClueTest.digest(ClueEdgeTest::openSearch));
    }

    // Nor does an open search say that there is no filling. Slot by slot 9 words above leave one on the left and one
    // beside it, then 6, 5, 4 and 3 in the other rows; but the search takes the rows of two first, which begin with aa.
    private static Crosshatch lateSearch() {
        Crosshatch x = new Crosshatch();
        x.alphabet(6);
        x.grid(5, 4);
        x.block(18, true);
        x.block(19, true);
        for (int cell = 1; cell < 15; cell++) {
            if (cell % 5 > 0) {
                x.bar(cell, true, true);
            }
        }
        for (int cell : new int[] {6, 8, 10, 12, 15, 17}) {
            x.bar(cell, false, true);
        }
        for (int k = 0; k < 8; k++) {
            x.word(0, k / 3, k % 3, 0, 0, 1);
            x.word(1, 0, k / 3, k % 3, -2, 1);
        }
        for (String word : new String[] {"caaaa", "cbaa", "aa", "ab", "ac", "ad", "ae", "af", "ba"}) {
            Due.word(x, word, 1);
        }
        return x;
    }

    private static void soundLateSearch() {
        Crosshatch x = lateSearch();
        Due.is("42: 9 + 1 + 1 + 6 + 30 + 120 + 360 tries", x.fillings(), 360);
        Due.is("40: open", x.search(0), -8);
        Due.is("40: tries", x.search(1), 1000);
        Due.is("40: dead ends, counted by a program of its own", x.search(2), 846);
        Due.is("41: none", x.found(0), -1);
        Due.is("43: but filling 0 has one", x.text(x.filling(0, 2)), "ba");
        Due.is("54: sound", x.isSound(), true);
        Due.is("55: digest", x.digest(), ClueTest.digest(ClueEdgeTest::lateSearch));
    }

    // Promise 55, by what the other calls tell: one filling, more of them, none, open.
    private static void digestOfEach() {
        Supplier<Crosshatch> one = () -> {
            Crosshatch made = Due.with(2, 3, 2, "aba", "ba", "ab");
            made.block(3, true);
            made.block(5, true);
            made.name(0, true);
            return made;
        };
        Due.is("55: one filling", one.get().fillings(), 1);
        Due.is("46: words, but no cell", one.get().unfair(0, true) * 10 + one.get().unfair(0, false), 10);
        Supplier<Crosshatch> none = () -> {
            Crosshatch made = Due.with(3, 2, 2, "ab", "ca", "ac");
            made.keep();
            made.block(0, true);
            return made;
        };
        Supplier<Crosshatch> marked = () -> {
            Crosshatch made = RefusedTest.full();
            made.ban(4, true);
            made.walk(1);
            made.next();
            return made;
        };
        List<Supplier<Crosshatch>> all = List.of(one, none, marked, RefusedTest::full, () -> RefusedTest.many(30),
                () -> GridEdgeTest.drawn("##", "##"), () -> FillingTest.product(11, 9, 9),
                () -> Due.with(3, 2, 2, "ab", "ba", "bc", "cb", "aba", "bcb", "aca", "abc"));
        for (int k = 0; k < all.size(); k++) {
            Crosshatch x = all.get(k).get();
            Due.is("55: digest " + k, x.digest(), ClueTest.digest(all.get(k)));
            Due.is("55: again " + k, x.digest(), x.digest());
        }
    }

    // Promise 55, by the numbers of a new object, each written out; "wraps around as a 64-bit integer".
    private static void digestOfNew() {
        int[][] slots = {{0, 0, 1}, {0, 1, 1}, {1, 1, 2}, {2, 1, 3}, {3, 0, 4}, {6, 0, 5}};
        int[] partners = {5, 3, 2, 1, 4, 0};
        int[][] cells = {{1, 0, 1}, {2, 0, 2}, {3, 0, 3}, {4, 4, 1}, {0, 4, 2}, {0, 4, 3}, {5, 5, 1}, {0, 5, 2},
            {0, 5, 3}};
        BigInteger d = BigInteger.valueOf(6705);
        d = mixed(d, 3, 3, 0, 0, 6, 0, 0, 2, 5, 1, 0);
        for (int[] cell : cells) {
            d = mixed(d, 0, -1, -1, cell[0], cell[1], cell[2], 0, -1);
        }
        for (int s = 0; s < 6; s++) {
            d = mixed(d, slots[s][0], slots[s][1], 3, slots[s][2], -1, 0, 0, partners[s], 3);
            d = mixed(d, "1a ___ (3)".length(), -1);
        }
        d = mixed(d, 4, 0, 0, 0, 0, 0, 0, 0, -1);
        d = mixed(d, 0, 0, 1);
        d = mixed(d, 0, -1, -1);
        d = mixed(d, 0, -1, -1);
        d = mixed(d, 0, 0, 0);
        d = mixed(d, -1, -1, -1);
        d = mixed(d, 1);
        Due.is("55: a new object", new Crosshatch().digest(), d.longValue());
        Due.is("55: it is greater than a long", d.bitLength() > 64, true);
    }

    private static BigInteger mixed(BigInteger d, int... values) {
        BigInteger then = d;
        for (int v : values) {
            then = then.multiply(BigInteger.valueOf(31)).add(BigInteger.valueOf(v));
        }
        return then;
    }
}

/** The edges of part 2 of the description (words) and of promises 9 to 13, 29, 30, 34 to 36, a sentence each. */
public final class WordEdgeTest {
    private WordEdgeTest() {
    }

    public static void main(String[] args) {
        alphabetBefore();
        alphabetStays();
        thirtyWords();
        unlikeWords();
        undoneWords();
        shortAndLong();
        worths();
        marksAtFirst();
        marksApart();
        banStaysLaid();
        orderByLength();
        orderByLetters();
        orderOfThirty();
        orderNotByNumber();
        patternLengths();
        patternLetters();
        patternOfEight();
        patternBanned();
        nthEdges();
        afterEdges();
        Due.end();
    }

    // "2 to 8 letters (4 at first)", "how many there were"
    private static void alphabetBefore() {
        Crosshatch x = new Crosshatch();
        int before = 4;
        for (int letters : new int[] {2, 8, 8, 3, 7, 4}) {
            Due.is("9: before", x.alphabet(letters), before);
            Due.is("9: told", x.house(0), letters);
            before = letters;
        }
    }

    // A letter that goes, or words that are undone, leave the alphabet free again; a new grid, too.
    private static void alphabetStays() {
        Crosshatch x = new Crosshatch();
        x.letter(0, 3);
        x.grid(2, 2);
        Due.is("9: the letter went with its grid", x.alphabet(2), 4);
        x.letter(0, 1);
        x.block(0, true);
        Due.is("9: the letter went with its cell", x.alphabet(8), 2);
        x.word(7, 0, -2, -2, -2, 1);
        x.undo();
        Due.is("9: the word was undone", x.alphabet(3), 8);
        Due.type(x, "a.;..;");
        Due.is("9: a letter on the paper is not told", x.alphabet(4), 3);
        x.read();
        x.undo();
        Due.is("9: what was read is undone", x.alphabet(5), 4);
    }

    // "WORDS, at most 30, numbered from 0 as they come"
    private static void thirtyWords() {
        Crosshatch x = new Crosshatch();
        for (int k = 0; k < 30; k++) {
            Due.is("10: number", x.word(3 - k / 16, k / 4 % 4, k % 4, -2, -2, 1), k);
            Due.is("10: how many", x.house(1), k + 1);
        }
        Due.is("10: the last one", x.text(29), "cdb");
        Due.is("10: it can be banned", x.ban(29, true), false);
        Due.is("10: it is banned", x.ofWord(29, 2), 1);
        Due.is("10: it alone", x.house(2), 1);
        x.undo();
        x.undo();
        Due.is("10: one less", x.house(1), 29);
        Due.is("10: then there is room", x.word(0, 0, -2, -2, -2, 1), 29);
        Due.is("10: with another one", x.text(29), "aa");
        Due.is("10: that is not banned", x.ofWord(29, 2), 0);
    }

    // "No two WORDS are alike.": as they are not, if one goes on, or has the same letters in another order
    private static void unlikeWords() {
        Crosshatch x = new Crosshatch();
        Due.is("ab", Due.word(x, "ab", 1), 0);
        Due.is("aba", Due.word(x, "aba", 1), 1);
        Due.is("abaa", Due.word(x, "abaa", 1), 2);
        Due.is("abaaa", Due.word(x, "abaaa", 1), 3);
        Due.is("ba", Due.word(x, "ba", 1), 4);
        Due.is("aa", Due.word(x, "aa", 1), 5);
        Due.is("aaa", Due.word(x, "aaa", 1), 6);
        Due.is("aaaa", Due.word(x, "aaaa", 1), 7);
        Due.is("aaaaa", Due.word(x, "aaaaa", 1), 8);
        x.undo();
        Due.is("the one that was undone", Due.word(x, "aaaaa", 2), 8);
        Due.is("with its new worth", x.ofWord(8, 1), 2);
    }

    // A word that is undone leaves nothing behind to the one that gets its number.
    private static void undoneWords() {
        Crosshatch x = new Crosshatch();
        Due.word(x, "ab", 9);
        x.wish(0, true);
        x.name(0, true);
        x.ban(0, true);
        for (int k = 0; k < 4; k++) {
            x.undo();
        }
        Due.word(x, "cda", 1);
        Due.is("10: its letters", x.text(0), "cda");
        Due.is("34: not of two", x.count(-1, -1, -2, -2, -2), 0);
        for (int letter = 0; letter < 4; letter++) {
            Due.is("34: at the first place", x.count(letter, -1, -1, -2, -2), letter == 2 ? 1 : 0);
            Due.is("34: at the second place", x.count(-1, letter, -1, -2, -2), letter == 3 ? 1 : 0);
            Due.is("34: at the third place", x.count(-1, -1, letter, -2, -2), letter == 0 ? 1 : 0);
        }
        Due.is("29: worth", x.ofWord(0, 1), 1);
        Due.is("29: no mark", x.ofWord(0, 2) + x.ofWord(0, 3) + x.ofWord(0, 4), 0);
        x.letter(0, 0);
        Due.is("28: it does not fit a", x.ofSlot(0, 5), 0);
        x.letter(0, 2);
        Due.is("28: it fits c", x.ofSlot(0, 5), 1);
    }

    // "2 to 5 letters"
    private static void shortAndLong() {
        Crosshatch x = new Crosshatch();
        String[] texts = {"dd", "aab", "dcba", "ddddd"};
        for (int w = 0; w < 4; w++) {
            Due.word(x, texts[w], 1);
            Due.is("30: text", x.text(w), texts[w]);
            Due.is("29: length", x.ofWord(w, 0), w + 2);
        }
    }

    // "WORTH 0 to 9"
    private static void worths() {
        Crosshatch x = new Crosshatch();
        for (int worth = 0; worth <= 9; worth++) {
            x.word(0, worth / 4, worth % 4, -2, -2, worth);
            Due.is("29: worth", x.ofWord(worth, 1), worth);
        }
    }

    // "may be BANNED, WISHED, a NAME (none at first)"
    private static void marksAtFirst() {
        Crosshatch x = RefusedTest.many(30);
        for (int w = 0; w < 30; w++) {
            Due.is("no mark", x.ofWord(w, 2) + x.ofWord(w, 3) + x.ofWord(w, 4), 0);
        }
        Due.is("none is banned", x.house(2), 0);
    }

    // Each mark is one of its own, and each word has its own.
    private static void marksApart() {
        for (int mark = 2; mark <= 4; mark++) {
            for (int word = 0; word < 3; word++) {
                Crosshatch x = Due.with(3, 3, 3, "ab", "bc", "ca");
                boolean[] before = new boolean[3];
                for (int time = 0; time < 3; time++) {
                    boolean is = time != 2;
                    before[time] = mark == 2 ? x.ban(word, is) : mark == 3 ? x.wish(word, is) : x.name(word, is);
                    for (int w = 0; w < 3; w++) {
                        for (int m = 2; m <= 4; m++) {
                            Due.is("29: mark " + m, x.ofWord(w, m), is && w == word && m == mark ? 1 : 0);
                        }
                    }
                    Due.is("33: banned", x.house(2), is && mark == 2 ? 1 : 0);
                }
                Due.is("was not", before[0], false);
                Due.is("was", before[1], true);
                Due.is("was still", before[2], true);
            }
        }
    }

    // Promise 11: "(it stays LAID)"
    private static void banStaysLaid() {
        Crosshatch x = Due.with(3, 2, 2, "ab", "ca", "ac", "ba");
        x.lay(0, 0);
        x.lay(2, 3);
        Due.is("11: banned", x.ban(0, true), false);
        Due.is("11: stays", x.ofSlot(0, 4), 0);
        Due.is("11: its letters are there", Due.drawn(x), "ab;.a;");
        Due.is("11: the other one, too", x.ofSlot(2, 4), 3);
        Due.is("11: where it is laid", x.ofWord(0, 6), 0);
        Due.is("11: it can be taken", x.take(0), 0);
        Due.is("11: and not be laid again", x.isFit(0, 0), false);
    }

    // "the shorter ones first"
    private static void orderByLength() {
        Crosshatch x = Due.with(4, 3, 3, "aaaaa", "bbbb", "ccc", "dd");
        for (int w = 0; w < 4; w++) {
            Due.is("place of " + x.text(w), x.ofWord(w, 5), 3 - w);
        }
        Due.word(x, "aaaa", 1);
        int[] want = {4, 3, 1, 0, 2};
        for (int w = 0; w < 5; w++) {
            Due.is("place of " + x.text(w), x.ofWord(w, 5), want[w]);
        }
    }

    // "of the same length by their letters, the first one at which they differ"
    private static void orderByLetters() {
        String[][] pairs = {{"aaaah", "aaaba"}, {"ahhhh", "baaaa"}, {"aabhh", "aacaa"}, {"gh", "ha"}, {"ag", "ah"},
            {"abbb", "abbc"}, {"abc", "acb"}, {"hhhha", "hhhhb"}};
        for (String[] pair : pairs) {
            Crosshatch x = Due.with(8, 3, 3, pair[0], pair[1]);
            Due.is(pair[0] + " ahead of " + pair[1], x.ofWord(0, 5), 0);
            Due.is(pair[1] + " behind " + pair[0], x.ofWord(1, 5), 1);
            Crosshatch y = Due.with(8, 3, 3, pair[1], pair[0]);
            Due.is(pair[0] + " ahead of " + pair[1] + " that came first", y.ofWord(1, 5), 0);
            Due.is(pair[1] + " behind " + pair[0] + " that came last", y.ofWord(0, 5), 1);
        }
    }

    // The last one that comes may be the first by order, and the first the last one.
    private static void orderOfThirty() {
        Crosshatch x = new Crosshatch();
        for (int k = 29; k >= 0; k--) {
            x.word(k / 16, k / 4 % 4, k % 4, -2, -2, 1);
        }
        for (int w = 0; w < 30; w++) {
            Due.is("place", x.ofWord(w, 5), 29 - w);
            Due.is("35: nth", x.nth(w, -1, -1, -1, -2, -2), 29 - w);
        }
        Due.is("35: behind the thirtieth", x.nth(30, -1, -1, -1, -2, -2), -1);
        Due.is("34: all", x.count(-1, -1, -1, -2, -2), 30);
        Due.is("36: behind the last but one", x.after(1, -1, -1, -1, -2, -2), 0);
        Due.is("36: behind the last one", x.after(0, -1, -1, -1, -2, -2), -1);
    }

    // Banned, wished and laid words keep their place.
    private static void orderNotByNumber() {
        Crosshatch x = Due.with(3, 2, 2, "cb", "ab", "ba");
        x.ban(1, true);
        x.wish(0, true);
        x.lay(0, 2);
        int[] want = {2, 0, 1};
        for (int w = 0; w < 3; w++) {
            Due.is("place of " + x.text(w), x.ofWord(w, 5), want[w]);
        }
    }

    private static Crosshatch words() {
        return Due.with(3, 3, 3, "ab", "abc", "abca", "abcab", "bb", "bbc", "bbca", "bbcab");
    }

    // "WORDS that MATCH it are as long"
    private static void patternLengths() {
        Crosshatch x = words();
        Due.is("34: of two", x.count(-1, -1, -2, -2, -2), 2);
        Due.is("34: of three", x.count(-1, -1, -1, -2, -2), 2);
        Due.is("34: of four", x.count(-1, -1, -1, -1, -2), 2);
        Due.is("34: of five", x.count(-1, -1, -1, -1, -1), 2);
        Due.is("34: ab, and nothing behind", x.count(0, 1, -2, -2, -2), 1);
        Due.is("34: ab?", x.count(0, 1, -1, -2, -2), 1);
        Due.is("34: abca", x.count(0, 1, 2, 0, -2), 1);
        Due.is("34: abcab", x.count(0, 1, 2, 0, 1), 1);
        Due.is("34: without words", new Crosshatch().count(-1, -1, -2, -2, -2), 0);
    }

    // "and have its letters at their places"
    private static void patternLetters() {
        Crosshatch x = words();
        for (int place = 0; place < 5; place++) {
            for (int letter = 0; letter < 3; letter++) {
                int[] p = {-1, -1, -1, -1, -1};
                p[place] = letter;
                int want = 0;
                for (int w : new int[] {3, 7}) {
                    want += x.text(w).charAt(place) == 'a' + letter ? 1 : 0;
                }
                Due.is("34: letter " + letter + " at " + place, x.count(p[0], p[1], p[2], p[3], p[4]), want);
            }
        }
        Due.is("34: one of them is other", x.count(0, 1, 2, 0, 0), 0);
        Due.is("34: the letters elsewhere", x.count(1, 0, -2, -2, -2), 0);
    }

    private static void patternOfEight() {
        Crosshatch x = Due.with(8, 3, 3, "hh", "ha", "ah", "hhhhh");
        Due.is("34: h?", x.count(7, -1, -2, -2, -2), 2);
        Due.is("34: ?h", x.count(-1, 7, -2, -2, -2), 2);
        Due.is("34: hhhhh", x.count(7, 7, 7, 7, 7), 1);
        Due.is("35: the last one", x.nth(2, -1, -1, -2, -2, -2), 0);
    }

    // Promise 34: "(BANNED ones, too)"
    private static void patternBanned() {
        Crosshatch x = words();
        for (int w = 0; w < 8; w++) {
            x.ban(w, true);
        }
        Due.is("34: banned ones, too", x.count(-1, -1, -2, -2, -2), 2);
        Due.is("35: banned ones, too", x.nth(1, -1, -1, -2, -2, -2), 4);
        Due.is("36: banned ones, too", x.after(0, -1, -1, -2, -2, -2), 4);
    }

    // Promise 35: "NONE, if there are not so many"
    private static void nthEdges() {
        Crosshatch x = words();
        Due.is("35: the first", x.nth(0, -1, 1, 2, -2, -2), 1);
        Due.is("35: the last", x.nth(1, -1, 1, 2, -2, -2), 5);
        Due.is("35: behind it", x.nth(2, -1, 1, 2, -2, -2), -1);
        Due.is("35: of none", x.nth(0, 2, -1, -1, -2, -2), -1);
        Due.is("35: without words", new Crosshatch().nth(0, -1, -1, -2, -2, -2), -1);
    }

    // Promise 36: "the first WORD behind that one by ORDER": never itself, and the one asked from need not match.
    private static void afterEdges() {
        Crosshatch x = words();
        Due.is("36: not itself", x.after(4, -1, 1, -2, -2, -2), -1);
        Due.is("36: the next one that matches", x.after(0, -1, 1, -2, -2, -2), 4);
        Due.is("36: from one that does not match", x.after(4, -1, -1, -1, -1, -1), 3);
        Due.is("36: shorter ones are ahead", x.after(1, -1, -1, -2, -2, -2), -1);
        Due.is("36: from the last of all", x.after(7, -1, -1, -1, -1, -1), -1);
        Due.is("36: to the last of all", x.after(3, -1, -1, -1, -1, -1), 7);
        Due.is("36: the first that matches, not the first of all", x.after(0, 1, -1, -1, -2, -2), 5);
    }
}

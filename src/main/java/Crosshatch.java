/** Crosswords made and solved: every promise of the document is a public method here. */
public final class Crosshatch {
    private static final int NONE = -1;
    private static final int ANY = -1;
    private static final int END = -2;
    private static final int FAULTY = -7;
    private static final int OPEN = -8;
    private static final int CANNOT = -9;
    private static final int SHORTEST = 2;
    private static final int LONGEST = 5;
    private static final int LETTERS = 8;
    private static final int DOT = 8;
    private static final int HASH = 9;
    private static final int ROW_END = 10;
    private static final int CELLS = 25;
    private static final int SLOTS = 20;
    private static final int WORDS = 30;
    private static final int SIGNS = 30;
    private static final int TRIES = 1000;
    private static final int CHANGES = 8;
    private static final int MANY = 1000000;

    private final State now = new State();
    private final Past past = new Past();
    private final Slots slots = new Slots();
    private final Rest rest = new Rest(now, slots);
    private final Fillings all = new Fillings(now, slots, rest);
    private final Search hunt = new Search(now, slots, rest);
    private final Hints clues = new Hints(slots, rest, all);
    private final Solver solver = new Solver(now, slots, rest, all);
    private final Paper paper = new Paper();
    private final Grid kept = new Grid();
    private final Slots keptSlots = new Slots();
    private final Grid trial = new Grid();
    private final Slots trialSlots = new Slots();
    private final int[] pattern = new int[LONGEST];
    private final int[] row = new int[SLOTS];
    private final int[] rowAhead = new int[SLOTS];
    private final StringBuilder pen = new StringBuilder();
    private int knocks;
    private int walkTo = NONE;
    private int walkAt = NONE;

    public Crosshatch() {
        renew();
    }

    // ---- the grid

    public int grid(int wide, int high) throws IllegalArgumentException {
        if (!isSide(wide) || !isSide(high)) {
            throw new IllegalArgumentException("wide and high are 2 to 5");
        }
        remember();
        now.grid.clear(wide, high);
        now.checked = 0;
        redraw();
        return now.grid.cells();
    }

    public int block(int cell, boolean is) throws IndexOutOfBoundsException {
        needCell(cell);
        remember();
        Grid grid = now.grid;
        grid.blockSet = set(grid.blockSet, cell, is);
        if (is) {
            put(grid.told, cell, NONE);
        }
        redraw();
        return slots.count;
    }

    public int bar(int cell, boolean isBelow, boolean is) throws IndexOutOfBoundsException, IllegalStateException {
        needCell(cell);
        Grid grid = now.grid;
        if (isBelow ? !grid.hasBelow(cell) : !grid.hasRight(cell)) {
            throw new IllegalStateException("there is no cell there");
        }
        remember();
        if (isBelow) {
            grid.lowBars = set(grid.lowBars, cell, is);
        } else {
            grid.rightBars = set(grid.rightBars, cell, is);
        }
        redraw();
        return slots.count;
    }

    public boolean check(int cell, boolean is) throws IndexOutOfBoundsException {
        needCell(cell);
        boolean was = has(now.checked, cell);
        remember();
        now.checked = set(now.checked, cell, is);
        renew();
        return was;
    }

    public int shortest(int least) throws IllegalArgumentException {
        if (!isSide(least)) {
            throw new IllegalArgumentException("least is 2 to 5");
        }
        int before = now.least;
        remember();
        now.least = least;
        renew();
        return before;
    }

    public int letter(int cell, int letter)
            throws IndexOutOfBoundsException, IllegalArgumentException, IllegalStateException {
        needCell(cell);
        if (letter < NONE || letter >= now.alphabet) {
            throw new IllegalArgumentException("no letter of the alphabet");
        }
        if (has(now.grid.blockSet, cell)) {
            throw new IllegalStateException("a block has no letter");
        }
        int byWord = rest.laidLetter(cell);
        if (letter != NONE && byWord != NONE && byWord != letter) {
            throw new IllegalStateException("a word has another letter there");
        }
        int before = at(now.grid.told, cell);
        tell(cell, letter);
        return before;
    }

    public int blocks() {
        int cell = blockable();
        if (cell == NONE) {
            return CANNOT;
        }
        remember();
        Grid grid = now.grid;
        grid.blockSet = set(set(grid.blockSet, cell, true), grid.partner(cell), true);
        redraw();
        return cell;
    }

    // ---- words

    public int alphabet(int letters) throws IllegalArgumentException, IllegalStateException {
        if (letters < 2 || letters > LETTERS) {
            throw new IllegalArgumentException("an alphabet has 2 to 8 letters");
        }
        if (now.words.count > 0 || now.grid.letters() > 0) {
            throw new IllegalStateException("there are words or told letters");
        }
        int before = now.alphabet;
        remember();
        now.alphabet = letters;
        renew();
        return before;
    }

    public int word(int a, int b, int c, int d, int e, int worth)
            throws IllegalArgumentException, IllegalStateException {
        setPattern(a, b, c, d, e);
        if (!isPattern(0) || worth < 0 || worth > 9) {
            throw new IllegalArgumentException("no word, or worth is not 0 to 9");
        }
        Words words = now.words;
        if (words.count >= WORDS || words.matching(pattern) != 0) {
            throw new IllegalStateException("there are 30 words, or it is there already");
        }
        remember();
        int number = words.add(pattern, worth);
        renew();
        return number;
    }

    public boolean ban(int word, boolean is) throws IndexOutOfBoundsException {
        needWord(word);
        boolean was = has(now.words.banned, word);
        remember();
        now.words.banned = set(now.words.banned, word, is);
        renew();
        return was;
    }

    public boolean wish(int word, boolean is) throws IndexOutOfBoundsException {
        needWord(word);
        boolean was = has(now.words.wished, word);
        remember();
        now.words.wished = set(now.words.wished, word, is);
        renew();
        return was;
    }

    public boolean name(int word, boolean is) throws IndexOutOfBoundsException {
        needWord(word);
        boolean was = has(now.words.names, word);
        remember();
        now.words.names = set(now.words.names, word, is);
        renew();
        return was;
    }

    // ---- laying

    public int lay(int slot, int word) throws IndexOutOfBoundsException, IllegalStateException {
        needSlot(slot);
        needWord(word);
        if (at(now.laid, slot) != NONE || !rest.isFitting(slot, word)) {
            throw new IllegalStateException("a word is laid there, or this one does not fit");
        }
        int empty = rest.emptyCells(slot);
        remember();
        put(now.laid, slot, word);
        renew();
        return empty;
    }

    public int take(int slot) throws IndexOutOfBoundsException, IllegalStateException {
        needSlot(slot);
        int word = at(now.laid, slot);
        if (word == NONE) {
            throw new IllegalStateException("no word is laid there");
        }
        remember();
        put(now.laid, slot, NONE);
        renew();
        return word;
    }

    public int theme(int word, int other) throws IndexOutOfBoundsException, IllegalArgumentException {
        needWord(word);
        needWord(other);
        if (word == other) {
            throw new IllegalArgumentException("a theme has two words");
        }
        int slot = themeSlot(word, other);
        if (slot == NONE) {
            return CANNOT;
        }
        remember();
        put(now.laid, slot, word);
        put(now.laid, slots.partner(slot), other);
        renew();
        return slot;
    }

    public int step() {
        solver.plan();
        tell(solver.cell, solver.letter);
        return solver.kind;
    }

    // ---- papers, walks, steps back

    public int type(int sign) throws IllegalArgumentException, IllegalStateException {
        if (sign < 0 || sign > ROW_END) {
            throw new IllegalArgumentException("a sign is 0 to 10");
        }
        if (paper.count >= SIGNS) {
            throw new IllegalStateException("a paper has 30 signs at most");
        }
        return paper.add(sign);
    }

    public int wipe() {
        int before = paper.count;
        paper.count = 0;
        return before;
    }

    public int read() {
        if (paper.fault(now.alphabet) != NONE) {
            return FAULTY;
        }
        remember();
        paper.onto(now.grid);
        now.checked = 0;
        redraw();
        return slots.count;
    }

    public int keep() {
        kept.become(now.grid);
        keptSlots.find(kept);
        return kept.cells();
    }

    public int walk(int from) throws IllegalArgumentException {
        int many = all.many();
        if (from < 0 || many != OPEN && from > many) {
            throw new IllegalArgumentException("no filling has that number");
        }
        stopWalk();
        if (many != OPEN) {
            walkTo = from;
        }
        return many;
    }

    public int next() throws IllegalStateException {
        if (walkTo == NONE) {
            throw new IllegalStateException("there is no walk");
        }
        if (walkTo >= all.many()) {
            stopWalk();
            return NONE;
        }
        walkAt = walkTo;
        walkTo++;
        return walkAt;
    }

    public int undo() throws IllegalStateException {
        if (past.count == 0) {
            throw new IllegalStateException("there is nothing to undo");
        }
        past.bringBack(now);
        stopWalk();
        renew();
        return past.count;
    }

    public int knock() {
        knocks++;
        return knocks;
    }

    // ---- what there is

    public int ofGrid(int what) throws IllegalArgumentException {
        Grid grid = now.grid;
        switch (what) {
            case 0: return grid.wide;
            case 1: return grid.high;
            case 2: return Integer.bitCount(grid.blockSet);
            case 3: return Integer.bitCount(grid.rightBars) + Integer.bitCount(grid.lowBars);
            case 4: return slots.count;
            case 5: return grid.letters();
            case 6: return Integer.bitCount(rest.laidSet);
            case 7: return now.least;
            case 8: return slots.numbers;
            case 9: return slots.parts();
            case 10: return faults(grid, slots);
            default: throw new IllegalArgumentException("what is 0 to 10");
        }
    }

    public int ofCell(int cell, int what) throws IndexOutOfBoundsException, IllegalArgumentException {
        needCell(cell);
        switch (what) {
            case 0: return one(has(now.grid.blockSet, cell));
            case 1: return at(rest.there, cell);
            case 2: return at(now.grid.told, cell);
            case 3: return at(slots.number, cell);
            case 4: return at(slots.across, cell);
            case 5: return at(slots.down, cell);
            case 6: return one(has(now.checked, cell));
            case 7: return all.many() == OPEN ? OPEN : at(all.forced, cell);
            default: throw new IllegalArgumentException("what is 0 to 7");
        }
    }

    public int ofSlot(int slot, int what) throws IndexOutOfBoundsException, IllegalArgumentException {
        needSlot(slot);
        switch (what) {
            case 0: return at(slots.first, slot);
            case 1: return one(slots.isDown(slot));
            case 2: return slots.length(slot);
            case 3: return at(slots.number, at(slots.first, slot));
            case 4: return at(now.laid, slot);
            case 5: return Integer.bitCount(at(rest.fits, slot));
            case 6: return Integer.bitCount(at(rest.leaves, slot));
            case 7: return slots.partner(slot);
            case 8: return slots.crossings(slot);
            default: throw new IllegalArgumentException("what is 0 to 8");
        }
    }

    public int ofWord(int word, int what) throws IndexOutOfBoundsException, IllegalArgumentException {
        needWord(word);
        Words words = now.words;
        switch (what) {
            case 0: return words.length(word);
            case 1: return at(words.worth, word);
            case 2: return one(has(words.banned, word));
            case 3: return one(has(words.wished, word));
            case 4: return one(has(words.names, word));
            case 5: return words.rank(word);
            case 6: return home(word);
            default: throw new IllegalArgumentException("what is 0 to 6");
        }
    }

    public String text(int word) throws IndexOutOfBoundsException {
        needWord(word);
        pen.setLength(0);
        int length = now.words.length(word);
        for (int place = 0; place < length; place++) {
            pen.append(sign(now.words.letterAt(word, place)));
        }
        return pen.toString();
    }

    public String drawn(int row) throws IndexOutOfBoundsException {
        if (row < 0 || row >= now.grid.high) {
            throw new IndexOutOfBoundsException("there is no such row");
        }
        pen.setLength(0);
        penRow(row);
        return pen.toString();
    }

    public String clue(int slot) throws IndexOutOfBoundsException {
        needSlot(slot);
        penClue(slot);
        return pen.toString();
    }

    public int house(int what) throws IllegalArgumentException {
        switch (what) {
            case 0: return now.alphabet;
            case 1: return now.words.count;
            case 2: return Integer.bitCount(now.words.banned);
            case 3: return paper.count;
            case 4: return paper.fault(now.alphabet);
            case 5: return past.count;
            case 6: return knocks;
            case 7: return one(isKept());
            case 8: return walkAt;
            default: throw new IllegalArgumentException("what is 0 to 8");
        }
    }

    // ---- patterns, what is left

    public int count(int a, int b, int c, int d, int e) throws IllegalArgumentException {
        needPattern(a, b, c, d, e);
        return Integer.bitCount(now.words.matching(pattern));
    }

    public int nth(int k, int a, int b, int c, int d, int e) throws IllegalArgumentException {
        if (k < 0) {
            throw new IllegalArgumentException("k is 0 or more");
        }
        needPattern(a, b, c, d, e);
        return now.words.kth(now.words.matching(pattern), k);
    }

    public int after(int word, int a, int b, int c, int d, int e)
            throws IndexOutOfBoundsException, IllegalArgumentException {
        needWord(word);
        needPattern(a, b, c, d, e);
        return now.words.firstFrom(now.words.matching(pattern), now.words.rank(word) + 1);
    }

    public int left(int slot, int k) throws IndexOutOfBoundsException, IllegalArgumentException {
        needSlot(slot);
        if (k < 0) {
            throw new IllegalArgumentException("k is 0 or more");
        }
        return now.words.kth(at(rest.leaves, slot), k);
    }

    public boolean isFit(int slot, int word) throws IndexOutOfBoundsException {
        needSlot(slot);
        needWord(word);
        return rest.isFitting(slot, word);
    }

    public int dies(int word) throws IndexOutOfBoundsException {
        needWord(word);
        return rest.deaths(word);
    }

    // ---- fillings

    public int search(int what) throws IllegalArgumentException {
        if (what < 0 || what > 2) {
            throw new IllegalArgumentException("what is 0 to 2");
        }
        int answer = hunt.outcome();
        return what == 0 ? answer : what == 1 ? hunt.tries : hunt.deadEnds;
    }

    public int found(int slot) throws IndexOutOfBoundsException {
        needSlot(slot);
        return hunt.outcome() == 1 ? at(hunt.taken, slot) : NONE;
    }

    public int fillings() {
        return all.many();
    }

    public int filling(int k, int slot) throws IndexOutOfBoundsException, IllegalArgumentException {
        needSlot(slot);
        int many = all.many();
        needFilling(k, many);
        if (many == OPEN) {
            return OPEN;
        }
        all.unfold(k, row);
        return at(row, slot);
    }

    public int best(boolean isValue) {
        int many = all.many();
        if (many == OPEN) {
            return OPEN;
        }
        if (many == 0) {
            return NONE;
        }
        return isValue ? all.bestValue : all.bestNumber;
    }

    public int hints(int k) throws IllegalArgumentException {
        int many = all.many();
        needFilling(k, many);
        return many == OPEN ? OPEN : clues.of(k);
    }

    public int unfair(int k, boolean isWords) throws IllegalArgumentException {
        int many = all.many();
        needFilling(k, many);
        if (many == OPEN) {
            return OPEN;
        }
        all.unfold(k, row);
        return isWords ? unfairWords() : unfairCells();
    }

    public int nextStep(int what) throws IllegalArgumentException {
        if (what < 0 || what > 2) {
            throw new IllegalArgumentException("what is 0 to 2");
        }
        solver.plan();
        return what == 0 ? solver.kind : what == 1 ? solver.cell : solver.letter;
    }

    // ---- clues, squares, rings, grids

    public int hidden(int word, int other) throws IndexOutOfBoundsException {
        needWord(word);
        needWord(other);
        return now.words.kinds(word, other);
    }

    public String rearranged(int word) throws IndexOutOfBoundsException {
        needWord(word);
        penRearranged(word);
        return pen.toString();
    }

    public int squares(int n) throws IllegalArgumentException {
        if (n < 2 || n > 4) {
            throw new IllegalArgumentException("n is 2 to 4");
        }
        return squaresFrom(n, 0, 0);
    }

    public int rings(int n) throws IllegalArgumentException {
        if (n != 2 && n != 3) {
            throw new IllegalArgumentException("n is 2 or 3");
        }
        int rings = 0;
        for (int first = 0; first < now.words.count; first++) {
            rings += n == 2 ? now.words.pairsBehind(first) : now.words.triplesBehind(first);
        }
        return rings;
    }

    public int fewest(int most) throws IllegalArgumentException, IllegalStateException {
        if (!isSide(most)) {
            throw new IllegalArgumentException("most is 2 to 5");
        }
        int cells = now.grid.cells();
        if (cells > 16) {
            throw new IllegalStateException("the grid has more than 16 cells");
        }
        int fewest = NONE;
        int pairs = (cells + 1) / 2;
        for (int choice = 0; choice < 1 << pairs; choice++) {
            int blockSet = bothWays(choice, pairs);
            int more = Integer.bitCount(blockSet & ~now.grid.blockSet);
            if ((fewest == NONE || more < fewest) && isSoundWith(blockSet) && trialSlots.longest() <= most) {
                fewest = more;
            }
        }
        return fewest;
    }

    public int compare(int what) throws IllegalArgumentException {
        if (what < 0 || what > 2) {
            throw new IllegalArgumentException("what is 0 to 2");
        }
        if (!isKept()) {
            return NONE;
        }
        if (what == 0) {
            return unlikeCells();
        }
        return what == 1 ? slots.shared(keptSlots, now.grid, kept) : one(isLikeKept());
    }

    public boolean isSound() {
        if (!isTurnTold() || !areLaidThere() || !isLeftSame()) {
            return false;
        }
        if (all.many() == OPEN) {
            return true;
        }
        int outcome = hunt.outcome();
        return areFillingsRight() && (outcome == OPEN || (outcome == 1) == (all.count > 0));
    }

    public long digest() {
        long d = 6705;
        for (int what = 0; what <= 10; what++) {
            d = mixed(d, ofGrid(what));
        }
        d = mixedCells(d);
        d = mixedSlots(d);
        d = mixedWords(d);
        for (int what = 0; what <= 8; what++) {
            d = mixed(d, house(what));
        }
        d = mixedFillings(d);
        for (int what = 0; what <= 2; what++) {
            d = mixed(d, nextStep(what));
        }
        d = mixed(d, squares(2));
        d = mixed(d, squares(3));
        d = mixed(d, rings(2));
        for (int what = 0; what <= 2; what++) {
            d = mixed(d, compare(what));
        }
        return mixed(d, one(isSound()));
    }

    // ---- digest, piece by piece

    private static long mixed(long d, int v) {
        return d * 31 + v;
    }

    private long mixedCells(long d) {
        int cells = now.grid.cells();
        for (int cell = 0; cell < cells; cell++) {
            for (int what = 0; what <= 7; what++) {
                d = mixed(d, ofCell(cell, what));
            }
        }
        return d;
    }

    private long mixedSlots(long d) {
        for (int slot = 0; slot < slots.count; slot++) {
            for (int what = 0; what <= 8; what++) {
                d = mixed(d, ofSlot(slot, what));
            }
            penClue(slot);
            d = mixed(d, pen.length());
            d = mixed(d, found(slot));
        }
        return d;
    }

    private long mixedWords(long d) {
        for (int word = 0; word < now.words.count; word++) {
            for (int what = 0; what <= 6; what++) {
                d = mixed(d, ofWord(word, what));
            }
            d = mixed(d, dies(word));
            penRearranged(word);
            d = mixed(d, pen.length());
        }
        return d;
    }

    private long mixedFillings(long d) {
        for (int what = 0; what <= 2; what++) {
            d = mixed(d, search(what));
        }
        d = mixed(d, fillings());
        d = mixed(d, best(true));
        d = mixed(d, best(false));
        if (fillings() > 0) {
            d = mixed(d, hints(0));
            d = mixed(d, unfair(0, false));
            d = mixed(d, unfair(0, true));
        }
        return d;
    }

    // ---- small tools

    private static boolean has(int set, int k) {
        return k >= 0 && k < 31 && (set >> k & 1) == 1;
    }

    private static int set(int set, int k, boolean is) {
        if (k < 0 || k >= 31) {
            return set;
        }
        return is ? set | 1 << k : set & ~(1 << k);
    }

    private static int at(int[] row, int k) {
        return k >= 0 && k < row.length ? row[k] : NONE;
    }

    private static void put(int[] row, int k, int value) {
        if (k >= 0 && k < row.length) {
            row[k] = value;
        }
    }

    private static void fill(int[] row, int value) {
        for (int k = 0; k < row.length; k++) {
            row[k] = value;
        }
    }

    private static void copy(int[] from, int[] to) {
        for (int k = 0; k < from.length && k < to.length; k++) {
            to[k] = from[k];
        }
    }

    private static int one(boolean is) {
        return is ? 1 : 0;
    }

    private static char sign(int letter) {
        return (char) ('a' + letter);
    }

    private static boolean isSide(int number) {
        return number >= SHORTEST && number <= LONGEST;
    }

    // ---- what the arguments need

    private void needCell(int cell) {
        if (cell < 0 || cell >= now.grid.cells()) {
            throw new IndexOutOfBoundsException("there is no such cell");
        }
    }

    private void needSlot(int slot) {
        if (slot < 0 || slot >= slots.count) {
            throw new IndexOutOfBoundsException("there is no such slot");
        }
    }

    private void needWord(int word) {
        if (word < 0 || word >= now.words.count) {
            throw new IndexOutOfBoundsException("there is no such word");
        }
    }

    private void needPattern(int a, int b, int c, int d, int e) {
        setPattern(a, b, c, d, e);
        if (!isPattern(ANY)) {
            throw new IllegalArgumentException("these are no pattern");
        }
    }

    private void setPattern(int a, int b, int c, int d, int e) {
        put(pattern, 0, a);
        put(pattern, 1, b);
        put(pattern, 2, c);
        put(pattern, 3, d);
        put(pattern, 4, e);
    }

    private boolean isPattern(int least) {
        boolean isEnded = false;
        for (int place = 0; place < LONGEST; place++) {
            int number = at(pattern, place);
            if (number == END) {
                isEnded = true;
                if (place < SHORTEST) {
                    return false;
                }
            } else if (isEnded || number < least || number >= now.alphabet) {
                return false;
            }
        }
        return true;
    }

    private static void needFilling(int k, int many) {
        if (k < 0 || many != OPEN && k >= many) {
            throw new IllegalArgumentException("there is no such filling");
        }
    }

    // ---- changes

    private void remember() {
        past.add(now);
        stopWalk();
    }

    private void stopWalk() {
        walkTo = NONE;
        walkAt = NONE;
    }

    private void renew() {
        slots.find(now.grid);
        rest.renew();
        all.isKnown = false;
        hunt.isKnown = false;
    }

    private void redraw() {
        fill(now.laid, NONE);
        renew();
    }

    // Without a cell it is a change all the same, by which nothing is other.
    private void tell(int cell, int letter) {
        remember();
        put(now.grid.told, cell, letter);
        renew();
    }

    // ---- grids made sound

    private int faults(Grid grid, Slots of) {
        int faults = of.parts() >= 2 ? 1 : 0;
        if (of.isAnyShorter(now.least)) {
            faults |= 2;
        }
        if (!grid.isTurned()) {
            faults |= 4;
        }
        if (!of.areInTwo(now.checked)) {
            faults |= 8;
        }
        return faults;
    }

    private boolean isSoundWith(int blockSet) {
        trial.become(now.grid);
        trial.blockSet = blockSet;
        trialSlots.find(trial);
        return faults(trial, trialSlots) == 0;
    }

    private int blockable() {
        Grid grid = now.grid;
        int cells = grid.cells();
        for (int cell = 0; cell < cells; cell++) {
            int partner = grid.partner(cell);
            if (grid.isWhite(cell) && at(rest.there, cell) == NONE && at(rest.there, partner) == NONE
                    && isSoundWith(set(set(grid.blockSet, cell, true), partner, true))) {
                return cell;
            }
        }
        return NONE;
    }

    // Only sets that are the same turned round can be sound, so halves are chosen and mirrored.
    private int bothWays(int choice, int pairs) {
        int blockSet = now.grid.blockSet;
        for (int cell = 0; cell < pairs; cell++) {
            int partner = now.grid.partner(cell);
            if (has(choice, cell) || has(blockSet, cell) || has(blockSet, partner)) {
                blockSet = set(set(blockSet, cell, true), partner, true);
            }
        }
        return blockSet;
    }

    private int unlikeCells() {
        int unlike = 0;
        for (int y = 0; y < LONGEST; y++) {
            for (int x = 0; x < LONGEST; x++) {
                int here = now.grid.cellAt(x, y);
                int there = kept.cellAt(x, y);
                if (here != NONE || there != NONE) {
                    unlike += one(here == NONE || there == NONE || !now.grid.isAlike(here, kept, there));
                }
            }
        }
        return unlike;
    }

    private boolean isKept() {
        return keptSlots.cellCount > 0;
    }

    private boolean isLikeKept() {
        Grid grid = now.grid;
        return grid.wide == kept.wide && grid.high == kept.high && unlikeCells() == 0
                && grid.rightBars == kept.rightBars && grid.lowBars == kept.lowBars;
    }

    // ---- laying and steps

    private int home(int word) {
        for (int slot = 0; slot < slots.count; slot++) {
            if (at(now.laid, slot) == word) {
                return slot;
            }
        }
        return NONE;
    }

    // Slots of one direction share no cell, so the first word changes nothing for the second one.
    private int themeSlot(int word, int other) {
        for (int slot = 0; slot < slots.count; slot++) {
            int partner = slots.partner(slot);
            if (partner != NONE && partner != slot && at(now.laid, slot) == NONE && at(now.laid, partner) == NONE
                    && rest.isFitting(slot, word) && rest.isFitting(partner, other)) {
                return slot;
            }
        }
        return NONE;
    }

    // ---- texts, written with one pen

    private void penRow(int y) {
        for (int x = 0; x < now.grid.wide; x++) {
            int cell = now.grid.cellAt(x, y);
            if (has(now.grid.blockSet, cell)) {
                pen.append('#');
            } else {
                penLetter(cell, '.');
            }
        }
    }

    private void penLetter(int cell, char empty) {
        int letter = at(rest.there, cell);
        pen.append(letter == NONE ? empty : sign(letter));
    }

    private void penClue(int slot) {
        int length = slots.length(slot);
        pen.setLength(0);
        pen.append(at(slots.number, at(slots.first, slot)));
        pen.append(slots.isDown(slot) ? 'd' : 'a');
        pen.append(' ');
        for (int place = 0; place < length; place++) {
            penLetter(slots.cell(slot, place), '_');
        }
        pen.append(" (").append(length).append(')');
    }

    private void penRearranged(int word) {
        Words words = now.words;
        pen.setLength(0);
        for (int place = 0; place < words.count; place++) {
            int other = at(words.order, place);
            if (words.isRearranged(word, other)) {
                if (pen.length() > 0) {
                    pen.append(' ');
                }
                pen.append(other);
            }
        }
    }

    // ---- papers of words

    private int unfairCells() {
        int unfair = 0;
        for (int cell = 0; cell < CELLS; cell++) {
            int across = at(row, at(slots.across, cell));
            int down = at(row, at(slots.down, cell));
            unfair += one(has(now.words.names, across) && has(now.words.names, down));
        }
        return unfair;
    }

    private int unfairWords() {
        int unfair = 0;
        for (int slot = 0; slot < slots.count; slot++) {
            unfair += one(slots.crossings(slot) > 0 && crossesOnlyNames(slot));
        }
        return unfair;
    }

    private boolean crossesOnlyNames(int slot) {
        int length = slots.length(slot);
        for (int place = 0; place < length; place++) {
            int other = slots.cross(slot, place);
            if (other != NONE && !has(now.words.names, at(row, other))) {
                return false;
            }
        }
        return true;
    }

    private int squaresFrom(int n, int k, int used) {
        Words words = now.words;
        int can = words.ofLength(n) & ~words.banned & ~used;
        for (int j = 0; j < k; j++) {
            can &= words.having(j, words.letterAt(at(row, j), k));
        }
        if (k >= n - 1 || k >= LONGEST) {
            return Integer.bitCount(can);
        }
        int squares = 0;
        for (int word = 0; word < words.count; word++) {
            if (has(can, word)) {
                put(row, k, word);
                squares += squaresFrom(n, k + 1, set(used, word, true));
            }
        }
        return squares;
    }

    // ---- what isSound looks at

    private boolean isTurnTold() {
        Grid grid = now.grid;
        pen.setLength(0);
        for (int y = 0; y < grid.high; y++) {
            penRow(y);
        }
        boolean isAlike = grid.areBarsTurned();
        int last = pen.length() - 1;
        for (int k = 0; k <= last; k++) {
            isAlike &= (pen.charAt(k) == '#') == (pen.charAt(last - k) == '#');
        }
        return has(faults(grid, slots), 2) != isAlike;
    }

    private boolean areLaidThere() {
        int seen = 0;
        for (int slot = 0; slot < slots.count; slot++) {
            int word = at(now.laid, slot);
            if (word != NONE && (has(seen, word) || !isWritten(slot, word))) {
                return false;
            }
            seen = set(seen, word, true);
        }
        return true;
    }

    private boolean isWritten(int slot, int word) {
        int length = slots.length(slot);
        for (int place = 0; place < length; place++) {
            if (at(rest.there, slots.cell(slot, place)) != now.words.letterAt(word, place)) {
                return false;
            }
        }
        return length == now.words.length(word);
    }

    private boolean isLeftSame() {
        int[] again = rest.leftAgain();
        for (int slot = 0; slot < slots.count; slot++) {
            if (at(again, slot) != at(rest.leaves, slot)) {
                return false;
            }
        }
        return true;
    }

    private boolean areFillingsRight() {
        for (int k = 0; k < all.count; k++) {
            all.unfold(k, row);
            if (!isFilling() || k > 0 && !isBehind()) {
                return false;
            }
            copy(row, rowAhead);
        }
        return all.count == 0 || areSureLettersForced();
    }

    private boolean isFilling() {
        int used = 0;
        for (int slot = 0; slot < slots.count; slot++) {
            int word = at(row, slot);
            if (has(used, word) || !fitsByLetters(slot, word) || !has(at(rest.leaves, slot), word)
                    || !agrees(slot, word)) {
                return false;
            }
            used = set(used, word, true);
        }
        return true;
    }

    private boolean fitsByLetters(int slot, int word) {
        int length = slots.length(slot);
        boolean isElsewhere = has(rest.laidSet, word) && at(now.laid, slot) != word;
        if (isElsewhere || has(now.words.banned, word) || now.words.length(word) != length) {
            return false;
        }
        for (int place = 0; place < length; place++) {
            int letter = at(rest.there, slots.cell(slot, place));
            if (letter != NONE && letter != now.words.letterAt(word, place)) {
                return false;
            }
        }
        return true;
    }

    private boolean agrees(int slot, int word) {
        int length = slots.length(slot);
        for (int place = 0; place < length; place++) {
            int other = slots.cross(slot, place);
            int letter = now.words.letterAt(at(row, other), slots.crossPlace(slot, place));
            if (other != NONE && letter != now.words.letterAt(word, place)) {
                return false;
            }
        }
        return true;
    }

    private boolean isBehind() {
        for (int slot = 0; slot < slots.count; slot++) {
            int here = at(row, slot);
            int ahead = at(rowAhead, slot);
            if (here != ahead) {
                return now.words.rank(here) > now.words.rank(ahead);
            }
        }
        return false;
    }

    // A letter is forced just if all fillings have it.
    private boolean areSureLettersForced() {
        for (int cell = 0; cell < CELLS; cell++) {
            int sure = solver.sureLetter(cell);
            if (sure != NONE && sure != at(all.forced, cell)) {
                return false;
            }
        }
        return true;
    }

    /** A grid of blocks, bars and told letters, without what is laid in it. */
    private static final class Grid {
        private int wide = 3;
        private int high = 3;
        private int blockSet;
        private int rightBars;
        private int lowBars;
        private final int[] told = new int[CELLS];

        Grid() {
            fill(told, NONE);
        }

        void clear(int newWide, int newHigh) {
            wide = newWide;
            high = newHigh;
            blockSet = 0;
            rightBars = 0;
            lowBars = 0;
            fill(told, NONE);
        }

        void become(Grid other) {
            wide = other.wide;
            high = other.high;
            blockSet = other.blockSet;
            rightBars = other.rightBars;
            lowBars = other.lowBars;
            copy(other.told, told);
        }

        int cells() {
            return wide * high;
        }

        int partner(int cell) {
            return cells() - 1 - cell;
        }

        int cellAt(int x, int y) {
            return x < wide && y < high ? y * wide + x : NONE;
        }

        int letters() {
            int letters = 0;
            for (int cell = 0; cell < told.length; cell++) {
                letters += one(told[cell] != NONE);
            }
            return letters;
        }

        boolean isWhite(int cell) {
            return cell >= 0 && cell < cells() && !has(blockSet, cell);
        }

        boolean isAlike(int cell, Grid other, int otherCell) {
            return has(blockSet, cell) == has(other.blockSet, otherCell)
                    && at(told, cell) == at(other.told, otherCell);
        }

        boolean hasRight(int cell) {
            return cell >= 0 && wide > 0 && cell % wide < wide - 1;
        }

        boolean hasBelow(int cell) {
            return cell >= 0 && cell < cells() - wide;
        }

        boolean joinsRight(int cell) {
            return hasRight(cell) && !has(rightBars, cell) && isWhite(cell) && isWhite(cell + 1);
        }

        boolean joinsBelow(int cell) {
            return hasBelow(cell) && !has(lowBars, cell) && isWhite(cell) && isWhite(cell + wide);
        }

        boolean isTurned() {
            int cells = cells();
            for (int cell = 0; cell < cells; cell++) {
                if (has(blockSet, cell) != has(blockSet, partner(cell))) {
                    return false;
                }
            }
            return areBarsTurned();
        }

        // The bar between two cells is held by the first one, so its partner is held by the partner of the second.
        boolean areBarsTurned() {
            int cells = cells();
            for (int cell = 0; cell < cells; cell++) {
                if (has(rightBars, cell) && !has(rightBars, partner(cell + 1))
                        || has(lowBars, cell) && !has(lowBars, partner(cell + wide))) {
                    return false;
                }
            }
            return true;
        }
    }

    /** What hangs together in a grid: its parts, its slots, their numbers and where they cross. */
    private static final class Slots {
        private int count;
        private int numbers;
        private int cellCount;
        private int wide;
        private int whites;
        // Sets of the cells that hang together with the one to their right, or below them.
        private int rightJoins;
        private int lowJoins;
        private final int[] first = new int[SLOTS];
        private final int[] stride = new int[SLOTS];
        private final int[] lengths = new int[SLOTS];
        private final int[] across = new int[CELLS];
        private final int[] down = new int[CELLS];
        private final int[] number = new int[CELLS];
        // Of each place of each slot its cell, the slot that crosses there, and the place of that one.
        private final int[] cells = new int[SLOTS * LONGEST];
        private final int[] crossed = new int[SLOTS * LONGEST];
        private final int[] crossedPlace = new int[SLOTS * LONGEST];

        void find(Grid grid) {
            join(grid);
            count = 0;
            numbers = 0;
            fill(across, NONE);
            fill(down, NONE);
            fill(number, 0);
            fill(cells, NONE);
            for (int cell = 0; cell < cellCount; cell++) {
                boolean isAcross = has(rightJoins, cell) && !has(rightJoins, cell - 1);
                boolean isDown = has(lowJoins, cell) && !has(lowJoins, cell - wide);
                if (isAcross || isDown) {
                    numbers++;
                    put(number, cell, numbers);
                }
                if (isAcross) {
                    add(cell, 1, rightJoins, across);
                }
                if (isDown) {
                    add(cell, wide, lowJoins, down);
                }
            }
            findCrossings();
        }

        private void join(Grid grid) {
            cellCount = grid.cells();
            wide = grid.wide;
            whites = 0;
            rightJoins = 0;
            lowJoins = 0;
            for (int cell = 0; cell < cellCount; cell++) {
                whites = set(whites, cell, grid.isWhite(cell));
                rightJoins = set(rightJoins, cell, grid.joinsRight(cell));
                lowJoins = set(lowJoins, cell, grid.joinsBelow(cell));
            }
        }

        private void add(int from, int by, int joins, int[] owner) {
            int cell = from;
            int length = 0;
            for (boolean isOn = true; isOn && length < LONGEST; cell += by) {
                put(owner, cell, count);
                put(cells, count * LONGEST + length, cell);
                length++;
                isOn = has(joins, cell);
            }
            put(first, count, from);
            put(stride, count, by);
            put(lengths, count, length);
            count++;
        }

        private void findCrossings() {
            for (int slot = 0; slot < count; slot++) {
                for (int place = 0; place < LONGEST; place++) {
                    int cell = cell(slot, place);
                    int other = at(isDown(slot) ? across : down, cell);
                    put(crossed, slot * LONGEST + place, other);
                    put(crossedPlace, slot * LONGEST + place, placeOf(cell, other));
                }
            }
        }

        int parts() {
            int seen = 0;
            int parts = 0;
            for (int cell = 0; cell < cellCount; cell++) {
                if (has(whites, cell) && !has(seen, cell)) {
                    parts++;
                    seen |= reach(cell);
                }
            }
            return parts;
        }

        private int reach(int cell) {
            int reached = set(0, cell, true);
            for (int round = 0; round < CELLS; round++) {
                reached |= (reached & rightJoins) << 1 | reached >> 1 & rightJoins
                        | (reached & lowJoins) << wide | reached >> wide & lowJoins;
            }
            return reached;
        }

        private int placeOf(int cell, int slot) {
            int by = at(stride, slot);
            return slot == NONE || by < 1 ? NONE : (cell - at(first, slot)) / by;
        }

        int length(int slot) {
            return at(lengths, slot);
        }

        boolean isDown(int slot) {
            return at(stride, slot) > 1;
        }

        int cell(int slot, int place) {
            return at(cells, slot * LONGEST + place);
        }

        int cross(int slot, int place) {
            return at(crossed, slot * LONGEST + place);
        }

        int crossPlace(int slot, int place) {
            return at(crossedPlace, slot * LONGEST + place);
        }

        int crossings(int slot) {
            int crossings = 0;
            for (int place = 0; place < LONGEST; place++) {
                crossings += one(cross(slot, place) != NONE);
            }
            return crossings;
        }

        int partner(int slot) {
            int from = cellCount - 1 - cell(slot, length(slot) - 1);
            int other = at(isDown(slot) ? down : across, from);
            return at(first, other) == from && length(other) == length(slot) ? other : NONE;
        }

        boolean isAnyShorter(int least) {
            for (int slot = 0; slot < count; slot++) {
                if (length(slot) < least) {
                    return true;
                }
            }
            return false;
        }

        int longest() {
            int longest = 0;
            for (int slot = 0; slot < count; slot++) {
                longest = Math.max(longest, length(slot));
            }
            return longest;
        }

        boolean areInTwo(int checked) {
            for (int cell = 0; cell < cellCount; cell++) {
                if (has(checked, cell) && (at(across, cell) == NONE || at(down, cell) == NONE)) {
                    return false;
                }
            }
            return true;
        }

        int shared(Slots other, Grid grid, Grid otherGrid) {
            int shared = 0;
            for (int y = 0; y < grid.high; y++) {
                for (int x = 0; x < grid.wide; x++) {
                    int here = grid.cellAt(x, y);
                    int there = otherGrid.cellAt(x, y);
                    shared += one(lengthFrom(across, here) > 0
                            && lengthFrom(across, here) == other.lengthFrom(other.across, there));
                    shared += one(lengthFrom(down, here) > 0
                            && lengthFrom(down, here) == other.lengthFrom(other.down, there));
                }
            }
            return shared;
        }

        private int lengthFrom(int[] owner, int cell) {
            int slot = at(owner, cell);
            return slot != NONE && at(first, slot) == cell ? length(slot) : 0;
        }
    }

    /** Words by number and in order, and sets of them by what they have. */
    private static final class Words {
        private int count;
        private int banned;
        private int wished;
        private int names;
        // A key holds the length, then three bits a letter, so that keys rise as the words do in order.
        private final int[] keys = new int[WORDS];
        private final int[] worth = new int[WORDS];
        private final int[] order = new int[WORDS];
        private final int[] byLength = new int[LONGEST + 1];
        private final int[] byLetter = new int[LONGEST * LETTERS];

        void become(Words other) {
            count = other.count;
            banned = other.banned;
            wished = other.wished;
            names = other.names;
            copy(other.keys, keys);
            copy(other.worth, worth);
            copy(other.order, order);
            copy(other.byLength, byLength);
            copy(other.byLetter, byLetter);
        }

        int add(int[] letters, int newWorth) {
            int word = count;
            int length = lengthOf(letters);
            int key = length;
            for (int place = 0; place < LONGEST; place++) {
                key = key << 3 | Math.max(at(letters, place), 0);
            }
            put(keys, word, key);
            put(worth, word, newWorth);
            put(byLength, length, set(ofLength(length), word, true));
            for (int place = 0; place < length; place++) {
                int letter = at(letters, place);
                put(byLetter, place * LETTERS + letter, set(having(place, letter), word, true));
            }
            insert(word);
            return word;
        }

        private void insert(int word) {
            int place = count;
            count++;
            while (place > 0 && at(keys, at(order, place - 1)) > at(keys, word)) {
                put(order, place, at(order, place - 1));
                place--;
            }
            put(order, place, word);
        }

        private static int lengthOf(int[] letters) {
            int length = 0;
            while (length < LONGEST && at(letters, length) != END) {
                length++;
            }
            return length;
        }

        int length(int word) {
            return word >= 0 && word < WORDS ? keys[word] >> 15 : 0;
        }

        int letterAt(int word, int place) {
            if (word < 0 || word >= WORDS || place < 0 || place >= LONGEST) {
                return NONE;
            }
            return keys[word] >> 12 - 3 * place & 7;
        }

        int ofLength(int length) {
            return length >= 0 && length < byLength.length ? byLength[length] : 0;
        }

        int having(int place, int letter) {
            boolean is = place >= 0 && place < LONGEST && letter >= 0 && letter < LETTERS;
            return is ? byLetter[place * LETTERS + letter] : 0;
        }

        int matching(int[] letters) {
            int length = lengthOf(letters);
            int words = ofLength(length);
            for (int place = 0; place < length; place++) {
                int letter = at(letters, place);
                if (letter != ANY) {
                    words &= having(place, letter);
                }
            }
            return words;
        }

        // Those that have at one place a letter that one of the others has at another place.
        int meeting(int place, int others, int otherPlace) {
            int words = 0;
            for (int letter = 0; letter < LETTERS; letter++) {
                if ((having(otherPlace, letter) & others) != 0) {
                    words |= having(place, letter);
                }
            }
            return words;
        }

        int rank(int word) {
            for (int place = 0; place < count; place++) {
                if (at(order, place) == word) {
                    return place;
                }
            }
            return NONE;
        }

        int kth(int words, int k) {
            int passed = 0;
            for (int place = 0; place < count; place++) {
                if (has(words, at(order, place))) {
                    if (passed == k) {
                        return at(order, place);
                    }
                    passed++;
                }
            }
            return NONE;
        }

        int firstFrom(int words, int from) {
            for (int place = from; place < count; place++) {
                if (has(words, at(order, place))) {
                    return at(order, place);
                }
            }
            return NONE;
        }

        int value(int word) {
            return at(worth, word) + (has(wished, word) ? 10 : 0);
        }

        int kinds(int word, int other) {
            int kinds = one(isBackward(word, other));
            if (isInside(word, other)) {
                kinds |= 2;
            }
            if (isEverySecond(word, other, 0) || isEverySecond(word, other, 1)) {
                kinds |= 4;
            }
            return isRearranged(word, other) ? kinds | 8 : kinds;
        }

        private boolean isBackward(int word, int other) {
            int length = length(word);
            for (int place = 0; place < length; place++) {
                if (letterAt(word, place) != letterAt(other, length - 1 - place)) {
                    return false;
                }
            }
            return length == length(other);
        }

        private boolean isInside(int word, int other) {
            int gap = length(other) - length(word);
            for (int from = 0; gap > 0 && from <= gap; from++) {
                if (stands(word, other, from, 1)) {
                    return true;
                }
            }
            return false;
        }

        private boolean isEverySecond(int word, int other, int from) {
            return length(word) == (length(other) - from + 1) / 2 && stands(word, other, from, 2);
        }

        private boolean stands(int word, int other, int from, int by) {
            int length = length(word);
            for (int place = 0; place < length; place++) {
                if (letterAt(word, place) != letterAt(other, from + place * by)) {
                    return false;
                }
            }
            return true;
        }

        boolean isRearranged(int word, int other) {
            for (int letter = 0; letter < LETTERS; letter++) {
                if (times(letter, word) != times(letter, other)) {
                    return false;
                }
            }
            return word != other;
        }

        private int times(int letter, int word) {
            int times = 0;
            int length = length(word);
            for (int place = 0; place < length; place++) {
                times += one(letterAt(word, place) == letter);
            }
            return times;
        }

        private boolean leads(int word, int other) {
            return letterAt(word, length(word) - 1) == letterAt(other, 0);
        }

        int pairsBehind(int word) {
            int rings = 0;
            for (int other = word + 1; other < count; other++) {
                rings += one(!has(banned, word) && !has(banned, other) && leads(word, other) && leads(other, word));
            }
            return rings;
        }

        int triplesBehind(int word) {
            int rings = 0;
            for (int other = word + 1; other < count && !has(banned, word); other++) {
                if (!has(banned, other) && leads(word, other)) {
                    rings += closings(word, other);
                }
            }
            return rings;
        }

        private int closings(int word, int other) {
            int rings = 0;
            for (int last = word + 1; last < count; last++) {
                rings += one(last != other && !has(banned, last) && leads(other, last) && leads(last, word));
            }
            return rings;
        }
    }

    /** All that a change may alter and undo brings back. */
    private static final class State {
        private final Grid grid = new Grid();
        private final Words words = new Words();
        private final int[] laid = new int[SLOTS];
        private int checked;
        private int least = SHORTEST;
        private int alphabet = 4;

        State() {
            fill(laid, NONE);
        }

        void become(State other) {
            grid.become(other.grid);
            words.become(other.words);
            copy(other.laid, laid);
            checked = other.checked;
            least = other.least;
            alphabet = other.alphabet;
        }
    }

    /** The states ahead of the last changes, in a ring. */
    private static final class Past {
        private final State[] ring = new State[CHANGES];
        private int count;
        private int top;

        Past() {
            for (int k = 0; k < ring.length; k++) {
                ring[k] = new State();
            }
        }

        void add(State state) {
            State spot = spot();
            if (spot != null) {
                spot.become(state);
            }
            top = top + 1 < CHANGES ? top + 1 : 0;
            count = Math.min(count + 1, CHANGES);
        }

        void bringBack(State state) {
            top = top > 0 ? top - 1 : CHANGES - 1;
            count--;
            State spot = spot();
            if (spot != null) {
                state.become(spot);
            }
        }

        private State spot() {
            return top >= 0 && top < ring.length ? ring[top] : null;
        }
    }

    /** The letters that are there, the words that fit each slot, and those that crossings leave. */
    private static final class Rest {
        private final State now;
        private final Slots slots;
        private final int[] there = new int[CELLS];
        private final int[] fits = new int[SLOTS];
        private final int[] leaves = new int[SLOTS];
        private final int[] again = new int[SLOTS];
        private int laidSet;

        Rest(State state, Slots ofState) {
            now = state;
            slots = ofState;
        }

        void renew() {
            copy(now.grid.told, there);
            laidSet = 0;
            for (int slot = 0; slot < slots.count; slot++) {
                int word = at(now.laid, slot);
                laidSet = set(laidSet, word, true);
                write(slot, word);
            }
            for (int slot = 0; slot < slots.count; slot++) {
                put(fits, slot, fitting(slot));
            }
            copy(fits, leaves);
            ruleOut(leaves, false);
        }

        private void write(int slot, int word) {
            int length = now.words.length(word);
            for (int place = 0; place < length; place++) {
                put(there, slots.cell(slot, place), now.words.letterAt(word, place));
            }
        }

        private int fitting(int slot) {
            Words words = now.words;
            int length = slots.length(slot);
            int elsewhere = set(laidSet, at(now.laid, slot), false);
            int fitting = words.ofLength(length) & ~words.banned & ~elsewhere;
            for (int place = 0; place < length; place++) {
                int letter = at(there, slots.cell(slot, place));
                if (letter != NONE) {
                    fitting &= words.having(place, letter);
                }
            }
            return fitting;
        }

        private void ruleOut(int[] left, boolean isFromLast) {
            boolean isChanged = true;
            for (int round = 0; isChanged && round < MANY; round++) {
                isChanged = false;
                for (int k = 0; k < slots.count; k++) {
                    int slot = isFromLast ? slots.count - 1 - k : k;
                    int still = at(left, slot) & supported(left, slot);
                    isChanged |= still != at(left, slot);
                    put(left, slot, still);
                }
            }
        }

        private int supported(int[] left, int slot) {
            int length = slots.length(slot);
            int words = at(left, slot);
            for (int place = 0; place < length; place++) {
                int other = slots.cross(slot, place);
                if (other != NONE) {
                    words &= now.words.meeting(place, at(left, other), slots.crossPlace(slot, place));
                }
            }
            return words;
        }

        int[] leftAgain() {
            copy(fits, again);
            ruleOut(again, true);
            return again;
        }

        int deaths(int word) {
            for (int slot = 0; slot < slots.count; slot++) {
                put(again, slot, set(at(fits, slot), word, false));
            }
            ruleOut(again, false);
            int dead = 0;
            for (int slot = 0; slot < slots.count; slot++) {
                dead = set(dead, slot, at(leaves, slot) != 0 && at(again, slot) == 0);
            }
            return dead;
        }

        boolean isFitting(int slot, int word) {
            return has(at(fits, slot), word);
        }

        int emptyCells(int slot) {
            int empty = 0;
            int length = slots.length(slot);
            for (int place = 0; place < length; place++) {
                empty += one(at(there, slots.cell(slot, place)) == NONE);
            }
            return empty;
        }

        int laidLetter(int cell) {
            int across = laidLetterOf(at(slots.across, cell), cell);
            return across != NONE ? across : laidLetterOf(at(slots.down, cell), cell);
        }

        private int laidLetterOf(int slot, int cell) {
            return slot == NONE ? NONE : now.words.letterAt(at(now.laid, slot), slots.placeOf(cell, slot));
        }
    }

    /** All fillings, looked for slot by slot; each is held by the last one of its tries. */
    private static final class Fillings {
        private final State now;
        private final Slots slots;
        private final Rest rest;
        private final int[] words = new int[TRIES];
        private final int[] ahead = new int[TRIES];
        private final int[] ends = new int[TRIES];
        private final int[] taken = new int[SLOTS];
        private final int[] forced = new int[CELLS];
        private boolean isKnown;
        private boolean isOpen;
        private int tries;
        private int count;
        private int bestValue;
        private int bestNumber;

        Fillings(State state, Slots ofState, Rest ofSlots) {
            now = state;
            slots = ofState;
            rest = ofSlots;
        }

        int many() {
            if (!isKnown) {
                isKnown = true;
                isOpen = false;
                tries = 0;
                count = 0;
                bestValue = NONE;
                bestNumber = NONE;
                fill(forced, NONE);
                tryFrom(0, NONE, 0);
            }
            return isOpen ? OPEN : count;
        }

        private void tryFrom(int slot, int last, int used) {
            if (slot >= slots.count || slot >= SLOTS) {
                note(last);
                return;
            }
            int can = open(slot) & ~used;
            for (int place = 0; can != 0 && place < now.words.count && !isOpen; place++) {
                int word = at(now.words.order, place);
                if (has(can, word)) {
                    if (tries >= TRIES) {
                        isOpen = true;
                        return;
                    }
                    put(words, tries, word);
                    put(ahead, tries, last);
                    put(taken, slot, word);
                    tries++;
                    tryFrom(slot + 1, tries - 1, set(used, word, true));
                }
            }
        }

        private int open(int slot) {
            int can = at(rest.fits, slot);
            int length = slots.length(slot);
            for (int place = 0; place < length; place++) {
                int other = slots.cross(slot, place);
                if (other != NONE && other < slot) {
                    int letter = now.words.letterAt(at(taken, other), slots.crossPlace(slot, place));
                    can &= now.words.having(place, letter);
                }
            }
            return can;
        }

        private void note(int last) {
            int value = 0;
            for (int slot = 0; slot < slots.count; slot++) {
                int word = at(taken, slot);
                int length = slots.length(slot);
                value += now.words.value(word);
                for (int place = 0; place < length; place++) {
                    force(slots.cell(slot, place), now.words.letterAt(word, place));
                }
            }
            if (count == 0 || value > bestValue) {
                bestValue = value;
                bestNumber = count;
            }
            put(ends, count, last);
            count++;
        }

        private void force(int cell, int letter) {
            if (count == 0) {
                put(forced, cell, letter);
            } else if (at(forced, cell) != letter) {
                put(forced, cell, NONE);
            }
        }

        void unfold(int k, int[] row) {
            int last = at(ends, k);
            for (int slot = slots.count - 1; slot >= 0; slot--) {
                put(row, slot, at(words, last));
                last = at(ahead, last);
            }
        }

        void spell(int k, int[] row, int[] letters) {
            unfold(k, row);
            for (int slot = 0; slot < slots.count; slot++) {
                int length = slots.length(slot);
                for (int place = 0; place < length; place++) {
                    put(letters, slots.cell(slot, place), now.words.letterAt(at(row, slot), place));
                }
            }
        }
    }

    /** The search that takes the slot with the fewest words first. */
    private static final class Search {
        private final State now;
        private final Slots slots;
        private final Rest rest;
        private final int[] taken = new int[SLOTS];
        // For each depth a row of what the crossings with taken words still allow in each slot.
        private final int[] can = new int[(SLOTS + 1) * SLOTS];
        private boolean isKnown;
        private int answer;
        private int tries;
        private int deadEnds;

        Search(State state, Slots ofState, Rest ofSlots) {
            now = state;
            slots = ofState;
            rest = ofSlots;
        }

        int outcome() {
            if (!isKnown) {
                isKnown = true;
                tries = 0;
                deadEnds = 0;
                copy(now.laid, taken);
                copy(rest.fits, can);
                boolean isBanned = (rest.laidSet & now.words.banned) != 0;
                answer = isBanned ? 0 : seek(0, rest.laidSet);
            }
            return answer;
        }

        private int seek(int depth, int used) {
            int slot = scarcest(depth, used);
            if (slot == NONE || depth >= SLOTS) {
                return 1;
            }
            int words = at(can, depth * SLOTS + slot) & ~used;
            if (words == 0) {
                deadEnds++;
            }
            for (int place = 0; words != 0 && place < now.words.count; place++) {
                int word = at(now.words.order, place);
                if (has(words, word)) {
                    if (tries >= TRIES) {
                        return OPEN;
                    }
                    tries++;
                    put(taken, slot, word);
                    narrow(depth, slot, word);
                    int outcome = seek(depth + 1, set(used, word, true));
                    if (outcome != 0) {
                        return outcome;
                    }
                }
            }
            put(taken, slot, NONE);
            return 0;
        }

        private int scarcest(int depth, int used) {
            int scarcest = NONE;
            int fewest = WORDS + 1;
            for (int slot = 0; slot < slots.count; slot++) {
                int many = Integer.bitCount(at(can, depth * SLOTS + slot) & ~used);
                if (at(taken, slot) == NONE && many < fewest) {
                    scarcest = slot;
                    fewest = many;
                }
            }
            return scarcest;
        }

        private void narrow(int depth, int slot, int word) {
            int from = depth * SLOTS;
            int to = from + SLOTS;
            for (int other = 0; other < slots.count; other++) {
                put(can, to + other, at(can, from + other));
            }
            int length = slots.length(slot);
            for (int place = 0; place < length; place++) {
                int other = slots.cross(slot, place);
                if (other != NONE) {
                    int having = now.words.having(slots.crossPlace(slot, place), now.words.letterAt(word, place));
                    put(can, to + other, at(can, to + other) & having);
                }
            }
        }
    }

    /** The next step of a solver, and why it can be made. */
    private static final class Solver {
        private final State now;
        private final Slots slots;
        private final Rest rest;
        private final Fillings all;
        private int kind;
        private int cell;
        private int letter;

        Solver(State state, Slots ofState, Rest ofSlots, Fillings fillings) {
            now = state;
            slots = ofState;
            rest = ofSlots;
            all = fillings;
        }

        void plan() {
            kind = 1;
            cell = sureCell();
            letter = sureLetter(cell);
            if (cell == NONE) {
                kind = 2;
                cell = all.many() == OPEN ? NONE : forcedCell();
                letter = at(all.forced, cell);
            }
            if (cell == NONE) {
                kind = 0;
            }
        }

        private int forcedCell() {
            for (int c = 0; c < CELLS; c++) {
                if (at(rest.there, c) == NONE && at(all.forced, c) != NONE) {
                    return c;
                }
            }
            return NONE;
        }

        private int sureCell() {
            for (int c = 0; c < CELLS; c++) {
                if (sureLetter(c) != NONE) {
                    return c;
                }
            }
            return NONE;
        }

        int sureLetter(int c) {
            if (at(rest.there, c) != NONE) {
                return NONE;
            }
            int across = onlyLetter(at(slots.across, c), c);
            return across != NONE ? across : onlyLetter(at(slots.down, c), c);
        }

        private int onlyLetter(int slot, int c) {
            int left = slot == NONE ? 0 : at(rest.leaves, slot);
            int place = slots.placeOf(c, slot);
            for (int k = 0; left != 0 && k < LETTERS; k++) {
                if ((left & ~now.words.having(place, k)) == 0) {
                    return k;
                }
            }
            return NONE;
        }
    }

    /** The fewest letters that tell one filling from all others. */
    private static final class Hints {
        private final Slots slots;
        private final Rest rest;
        private final Fillings all;
        // Of each other filling the open cells in which it has another letter.
        private final int[] unlike = new int[TRIES];
        private final int[] row = new int[SLOTS];
        private final int[] letters = new int[CELLS];
        private final int[] others = new int[CELLS];
        private int count;

        Hints(Slots ofState, Rest ofSlots, Fillings fillings) {
            slots = ofState;
            rest = ofSlots;
            all = fillings;
        }

        int of(int k) {
            int open = openCells();
            all.spell(k, row, letters);
            count = 0;
            for (int other = 0; other < all.count; other++) {
                if (other != k) {
                    all.spell(other, row, others);
                    put(unlike, count, differing(open));
                    count++;
                }
            }
            return Integer.bitCount(open) <= 10 ? smallest(open) : grown(open);
        }

        private int openCells() {
            int open = 0;
            for (int cell = 0; cell < CELLS; cell++) {
                boolean isIn = at(slots.across, cell) != NONE || at(slots.down, cell) != NONE;
                open = set(open, cell, isIn && at(rest.there, cell) == NONE);
            }
            return open;
        }

        private int differing(int open) {
            int differing = 0;
            for (int cell = 0; cell < CELLS; cell++) {
                differing = set(differing, cell, has(open, cell) && at(letters, cell) != at(others, cell));
            }
            return differing;
        }

        private int alike(int cells) {
            int alike = 0;
            for (int k = 0; k < count && k < unlike.length; k++) {
                alike += one((unlike[k] & cells) == 0);
            }
            return alike;
        }

        // Ends with the first other filling that is alike, for most sets tell too little.
        private boolean tell(int cells) {
            for (int k = 0; k < count && k < unlike.length; k++) {
                if ((unlike[k] & cells) == 0) {
                    return false;
                }
            }
            return true;
        }

        // The subsets of open come by rising numbers, so the first one of a size is the smallest.
        private int smallest(int open) {
            int best = open;
            int cells = 0;
            for (int k = 0; k < 1 << Integer.bitCount(open); k++) {
                if (Integer.bitCount(cells) < Integer.bitCount(best) && tell(cells)) {
                    best = cells;
                }
                cells = cells - open & open;
            }
            return best;
        }

        private int grown(int open) {
            int cells = 0;
            for (int round = 0; round < CELLS && alike(cells) > 0; round++) {
                int best = NONE;
                int fewest = TRIES;
                for (int cell = 0; cell < CELLS; cell++) {
                    int alike = has(open, cell) ? alike(set(cells, cell, true)) : TRIES;
                    if (alike < fewest) {
                        best = cell;
                        fewest = alike;
                    }
                }
                cells = set(cells, best, true);
            }
            return cells;
        }
    }

    /** The signs that were typed, and the grid that they tell. */
    private static final class Paper {
        private final int[] signs = new int[SIGNS];
        private int count;

        int add(int sign) {
            put(signs, count, sign);
            count++;
            return count;
        }

        int fault(int alphabet) {
            int wide = LONGEST;
            int rows = 0;
            int x = 0;
            for (int k = 0; k < count; k++) {
                int sign = at(signs, k);
                boolean isEnd = sign == ROW_END;
                boolean canEnd = rows == 0 ? x >= SHORTEST : x == wide;
                boolean isCell = x < wide && (sign == DOT || sign == HASH || sign < alphabet);
                if (rows >= LONGEST || (isEnd ? !canEnd : !isCell)) {
                    return k;
                }
                if (isEnd) {
                    wide = x;
                    rows++;
                    x = 0;
                } else {
                    x++;
                }
            }
            return rows >= SHORTEST && x == 0 ? NONE : count;
        }

        void onto(Grid grid) {
            int rows = 0;
            for (int k = 0; k < count; k++) {
                rows += one(at(signs, k) == ROW_END);
            }
            grid.clear(rows > 0 ? count / rows - 1 : 0, rows);
            int cell = 0;
            for (int k = 0; k < count; k++) {
                int sign = at(signs, k);
                if (sign != ROW_END) {
                    grid.blockSet = set(grid.blockSet, cell, sign == HASH);
                    put(grid.told, cell, sign < LETTERS ? sign : NONE);
                    cell++;
                }
            }
        }
    }
}

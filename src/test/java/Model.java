import java.util.ArrayList;
import java.util.Arrays;
import java.util.Collections;
import java.util.Comparator;
import java.util.HashSet;
import java.util.List;
import java.util.Set;
import java.util.TreeSet;

/**
 * The document once more, written as plainly as it goes and without a thought for speed: everything is worked out
 * anew in each call. RandomRunsTest holds Crosshatch against it.
 */
public final class Model {
    private static final int NONE = -1;

    static final class Word {
        final String text;
        final int worth;
        boolean banned;
        boolean wished;
        boolean name;

        Word(String text, int worth) {
            this.text = text;
            this.worth = worth;
        }

        Word twin() {
            Word twin = new Word(text, worth);
            twin.banned = banned;
            twin.wished = wished;
            twin.name = name;
            return twin;
        }
    }

    static final class Grid {
        int wide = 3;
        int high = 3;
        final Set<Integer> blocks = new TreeSet<>();
        final Set<List<Integer>> bars = new HashSet<>();
        final Integer[] told = new Integer[25];

        Grid twin() {
            Grid twin = new Grid();
            twin.wide = wide;
            twin.high = high;
            twin.blocks.addAll(blocks);
            twin.bars.addAll(bars);
            System.arraycopy(told, 0, twin.told, 0, 25);
            return twin;
        }

        int cells() {
            return wide * high;
        }

        boolean areJoined(int a, int b) {
            return !blocks.contains(a) && !blocks.contains(b) && !bars.contains(List.of(a, b));
        }
    }

    record Slot(boolean isDown, List<Integer> cells) {
    }

    static final class State {
        Grid grid = new Grid();
        Set<Integer> checked = new TreeSet<>();
        int shortest = 2;
        int alphabet = 4;
        List<Word> words = new ArrayList<>();
        List<Integer> laid = new ArrayList<>(Collections.nCopies(20, NONE));

        State twin() {
            State twin = new State();
            twin.grid = grid.twin();
            twin.checked.addAll(checked);
            twin.shortest = shortest;
            twin.alphabet = alphabet;
            for (Word word : words) {
                twin.words.add(word.twin());
            }
            twin.laid = new ArrayList<>(laid);
            return twin;
        }
    }

    State now = new State();
    final List<State> past = new ArrayList<>();
    final List<Integer> paper = new ArrayList<>();
    Grid kept;
    int knocks;
    Integer walkTo;
    int walkAt = NONE;

    // ---- derived things

    private static List<Slot> slotsOf(Grid grid) {
        List<Slot> slots = new ArrayList<>();
        for (int y = 0; y < grid.high; y++) {
            List<Integer> line = new ArrayList<>();
            for (int x = 0; x < grid.wide; x++) {
                line.add(y * grid.wide + x);
            }
            runs(grid, false, line, slots);
        }
        for (int x = 0; x < grid.wide; x++) {
            List<Integer> line = new ArrayList<>();
            for (int y = 0; y < grid.high; y++) {
                line.add(y * grid.wide + x);
            }
            runs(grid, true, line, slots);
        }
        slots.sort(Comparator.comparing((Slot slot) -> slot.cells().get(0)).thenComparing(Slot::isDown));
        return slots;
    }

    private static void runs(Grid grid, boolean isDown, List<Integer> line, List<Slot> slots) {
        List<Integer> run = new ArrayList<>();
        for (int cell : line) {
            if (!run.isEmpty() && !grid.areJoined(run.get(run.size() - 1), cell)) {
                if (run.size() > 1) {
                    slots.add(new Slot(isDown, run));
                }
                run = new ArrayList<>();
            }
            run.add(cell);
        }
        if (run.size() > 1) {
            slots.add(new Slot(isDown, run));
        }
    }

    private List<Slot> slots() {
        return slotsOf(now.grid);
    }

    private static int slotAt(List<Slot> slots, int cell, boolean isDown) {
        for (int s = 0; s < slots.size(); s++) {
            if (slots.get(s).isDown() == isDown && slots.get(s).cells().contains(cell)) {
                return s;
            }
        }
        return NONE;
    }

    private static int partner(Grid grid, List<Slot> slots, int slot) {
        List<Integer> turned = new ArrayList<>();
        for (int cell : slots.get(slot).cells()) {
            turned.add(0, grid.cells() - 1 - cell);
        }
        return slots.indexOf(new Slot(slots.get(slot).isDown(), turned));
    }

    private static int numberOf(List<Slot> slots, int cell) {
        Set<Integer> starts = new TreeSet<>();
        for (Slot slot : slots) {
            starts.add(slot.cells().get(0));
        }
        int number = new ArrayList<>(starts).indexOf(cell);
        return number + 1;
    }

    private static int parts(Grid grid) {
        int[] part = new int[grid.cells()];
        for (int c = 0; c < part.length; c++) {
            part[c] = grid.blocks.contains(c) ? -1 : c;
        }
        for (int round = 0; round < 30; round++) {
            for (int a = 0; a < part.length; a++) {
                for (int b = a + 1; b < part.length; b++) {
                    boolean isBeside = b == a + 1 && a / grid.wide == b / grid.wide || b == a + grid.wide;
                    if (isBeside && grid.areJoined(a, b)) {
                        int least = Math.min(part[a], part[b]);
                        part[a] = least;
                        part[b] = least;
                    }
                }
            }
        }
        return (int) Arrays.stream(part).filter(p -> p >= 0).distinct().count();
    }

    private int faults(Grid grid) {
        List<Slot> slots = slotsOf(grid);
        int faults = parts(grid) >= 2 ? 1 : 0;
        for (Slot slot : slots) {
            if (slot.cells().size() < now.shortest) {
                faults |= 2;
            }
        }
        int last = grid.cells() - 1;
        for (int c = 0; c <= last; c++) {
            if (grid.blocks.contains(c) != grid.blocks.contains(last - c)) {
                faults |= 4;
            }
        }
        for (List<Integer> bar : grid.bars) {
            if (!grid.bars.contains(List.of(last - bar.get(1), last - bar.get(0)))) {
                faults |= 4;
            }
        }
        for (int c : now.checked) {
            if (slotAt(slots, c, false) == NONE || slotAt(slots, c, true) == NONE) {
                faults |= 8;
            }
        }
        return faults;
    }

    private Character there(int cell) {
        List<Slot> slots = slots();
        for (int s = 0; s < slots.size(); s++) {
            int place = slots.get(s).cells().indexOf(cell);
            if (now.laid.get(s) != NONE && place >= 0) {
                return now.words.get(now.laid.get(s)).text.charAt(place);
            }
        }
        return now.grid.told[cell] == null ? null : (char) ('a' + now.grid.told[cell]);
    }

    private boolean fits(List<Slot> slots, Character[] there, Set<Integer> banned, int slot, int word) {
        String text = now.words.get(word).text;
        List<Integer> cells = slots.get(slot).cells();
        if (text.length() != cells.size() || banned.contains(word)) {
            return false;
        }
        for (int s = 0; s < slots.size(); s++) {
            if (s != slot && now.laid.get(s) == word) {
                return false;
            }
        }
        for (int i = 0; i < cells.size(); i++) {
            if (there[cells.get(i)] != null && there[cells.get(i)] != text.charAt(i)) {
                return false;
            }
        }
        return true;
    }

    private Character[] allThere() {
        Character[] there = new Character[25];
        for (int c = 0; c < now.grid.cells(); c++) {
            there[c] = there(c);
        }
        return there;
    }

    private Set<Integer> banned() {
        Set<Integer> banned = new TreeSet<>();
        for (int w = 0; w < now.words.size(); w++) {
            if (now.words.get(w).banned) {
                banned.add(w);
            }
        }
        return banned;
    }

    private List<Integer> order() {
        List<Integer> order = new ArrayList<>();
        for (int w = 0; w < now.words.size(); w++) {
            order.add(w);
        }
        order.sort((v, w) -> {
            String a = now.words.get(v).text;
            String b = now.words.get(w).text;
            return a.length() != b.length() ? a.length() - b.length() : a.compareTo(b);
        });
        return order;
    }

    /** For each slot the words that fit, by order. */
    private List<List<Integer>> fitting(Set<Integer> banned) {
        List<Slot> slots = slots();
        Character[] there = allThere();
        List<List<Integer>> fitting = new ArrayList<>();
        for (int s = 0; s < slots.size(); s++) {
            List<Integer> row = new ArrayList<>();
            for (int w : order()) {
                if (fits(slots, there, banned, s, w)) {
                    row.add(w);
                }
            }
            fitting.add(row);
        }
        return fitting;
    }

    private List<List<Integer>> leftIn(Set<Integer> banned) {
        List<Slot> slots = slots();
        List<List<Integer>> left = fitting(banned);
        boolean isChanged = true;
        while (isChanged) {
            isChanged = false;
            for (int s = 0; s < slots.size(); s++) {
                for (int w : new ArrayList<>(left.get(s))) {
                    if (isRuledOut(slots, left, s, w)) {
                        left.get(s).remove((Integer) w);
                        isChanged = true;
                    }
                }
            }
        }
        return left;
    }

    private boolean isRuledOut(List<Slot> slots, List<List<Integer>> left, int s, int w) {
        for (int i = 0; i < slots.get(s).cells().size(); i++) {
            int cell = slots.get(s).cells().get(i);
            int t = slotAt(slots, cell, !slots.get(s).isDown());
            if (t != NONE) {
                int j = slots.get(t).cells().indexOf(cell);
                char letter = now.words.get(w).text.charAt(i);
                if (left.get(t).stream().noneMatch(v -> now.words.get(v).text.charAt(j) == letter)) {
                    return true;
                }
            }
        }
        return false;
    }

    private boolean agree(List<Slot> slots, int s, int w, int t, int v) {
        if (slots.get(s).isDown() == slots.get(t).isDown()) {
            return true;
        }
        for (int cell : slots.get(s).cells()) {
            int j = slots.get(t).cells().indexOf(cell);
            if (j >= 0) {
                int i = slots.get(s).cells().indexOf(cell);
                return now.words.get(w).text.charAt(i) == now.words.get(v).text.charAt(j);
            }
        }
        return true;
    }

    private int tries;

    /** All fillings, or null if it is open how many there are. */
    private List<List<Integer>> allFillings() {
        tries = 0;
        List<List<Integer>> fillings = new ArrayList<>();
        return fillOn(slots(), fitting(banned()), new ArrayList<>(), fillings) ? fillings : null;
    }

    private boolean fillOn(List<Slot> slots, List<List<Integer>> fitting, List<Integer> ahead,
            List<List<Integer>> fillings) {
        int s = ahead.size();
        if (s == slots.size()) {
            fillings.add(new ArrayList<>(ahead));
            return true;
        }
        for (int w : fitting.get(s)) {
            boolean can = !ahead.contains(w);
            for (int t = 0; t < s; t++) {
                can &= agree(slots, s, w, t, ahead.get(t));
            }
            if (can) {
                if (tries == 1000) {
                    return false;
                }
                tries++;
                ahead.add(w);
                boolean isDone = fillOn(slots, fitting, ahead, fillings);
                ahead.remove(ahead.size() - 1);
                if (!isDone) {
                    return false;
                }
            }
        }
        return true;
    }

    private int[] searchOutcome;
    private List<Integer> searchTaken;

    private void runSearch() {
        List<Slot> slots = slots();
        searchOutcome = new int[] {0, 0, 0};
        searchTaken = new ArrayList<>(now.laid.subList(0, slots.size()));
        for (int w : searchTaken) {
            if (w != NONE && now.words.get(w).banned) {
                return;
            }
        }
        searchOutcome[0] = seek(slots, fitting(banned()));
    }

    private List<Integer> takeable(List<Slot> slots, List<List<Integer>> fitting, int s) {
        List<Integer> can = new ArrayList<>();
        for (int w : fitting.get(s)) {
            boolean is = !searchTaken.contains(w);
            for (int t = 0; t < slots.size(); t++) {
                is &= searchTaken.get(t) == NONE || agree(slots, s, w, t, searchTaken.get(t));
            }
            if (is) {
                can.add(w);
            }
        }
        return can;
    }

    private int seek(List<Slot> slots, List<List<Integer>> fitting) {
        int slot = NONE;
        List<Integer> can = null;
        for (int s = 0; s < slots.size(); s++) {
            if (searchTaken.get(s) == NONE) {
                List<Integer> words = takeable(slots, fitting, s);
                if (can == null || words.size() < can.size()) {
                    slot = s;
                    can = words;
                }
            }
        }
        if (can == null) {
            return 1;
        }
        if (can.isEmpty()) {
            searchOutcome[2]++;
            return 0;
        }
        for (int w : can) {
            if (searchOutcome[1] == 1000) {
                return -8;
            }
            searchOutcome[1]++;
            searchTaken.set(slot, w);
            int outcome = seek(slots, fitting);
            if (outcome != 0) {
                return outcome;
            }
            searchTaken.set(slot, NONE);
        }
        return 0;
    }

    private Character[] spelled(List<Integer> filling) {
        Character[] letters = new Character[25];
        List<Slot> slots = slots();
        for (int s = 0; s < slots.size(); s++) {
            for (int i = 0; i < slots.get(s).cells().size(); i++) {
                letters[slots.get(s).cells().get(i)] = now.words.get(filling.get(s)).text.charAt(i);
            }
        }
        return letters;
    }

    private Character[] forced(List<List<Integer>> fillings) {
        Character[] forced = new Character[25];
        for (int k = 0; k < fillings.size(); k++) {
            Character[] letters = spelled(fillings.get(k));
            for (int c = 0; c < 25; c++) {
                forced[c] = k == 0 ? letters[c] : letters[c] == forced[c] ? letters[c] : null;
            }
        }
        return forced;
    }

    private static int letterOf(Character letter) {
        return letter == null ? NONE : letter - 'a';
    }

    // ---- needs

    private void needCell(int cell) {
        if (cell < 0 || cell >= now.grid.cells()) {
            throw new IndexOutOfBoundsException();
        }
    }

    private void needSlot(int slot) {
        if (slot < 0 || slot >= slots().size()) {
            throw new IndexOutOfBoundsException();
        }
    }

    private void needWord(int word) {
        if (word < 0 || word >= now.words.size()) {
            throw new IndexOutOfBoundsException();
        }
    }

    private static void need(boolean is) {
        if (!is) {
            throw new IllegalArgumentException();
        }
    }

    private static void needState(boolean is) {
        if (!is) {
            throw new IllegalStateException();
        }
    }

    private void change() {
        past.add(now.twin());
        if (past.size() > 8) {
            past.remove(0);
        }
        walkTo = null;
        walkAt = NONE;
    }

    private void takeAll() {
        Collections.fill(now.laid, NONE);
    }

    // ---- the face

    public int grid(int wide, int high) {
        need(wide >= 2 && wide <= 5 && high >= 2 && high <= 5);
        change();
        now.grid = new Grid();
        now.grid.wide = wide;
        now.grid.high = high;
        now.checked.clear();
        takeAll();
        return wide * high;
    }

    public int block(int cell, boolean is) {
        needCell(cell);
        change();
        if (is) {
            now.grid.blocks.add(cell);
            now.grid.told[cell] = null;
        } else {
            now.grid.blocks.remove(cell);
        }
        takeAll();
        return slots().size();
    }

    public int bar(int cell, boolean isBelow, boolean is) {
        needCell(cell);
        int wide = now.grid.wide;
        needState(isBelow ? cell / wide + 1 < now.grid.high : cell % wide + 1 < wide);
        change();
        List<Integer> bar = List.of(cell, isBelow ? cell + wide : cell + 1);
        if (is) {
            now.grid.bars.add(bar);
        } else {
            now.grid.bars.remove(bar);
        }
        takeAll();
        return slots().size();
    }

    public boolean check(int cell, boolean is) {
        needCell(cell);
        change();
        boolean was = now.checked.contains(cell);
        if (is) {
            now.checked.add(cell);
        } else {
            now.checked.remove(cell);
        }
        return was;
    }

    public int shortest(int least) {
        need(least >= 2 && least <= 5);
        change();
        int was = now.shortest;
        now.shortest = least;
        return was;
    }

    public int letter(int cell, int letter) {
        needCell(cell);
        need(letter >= NONE && letter < now.alphabet);
        needState(!now.grid.blocks.contains(cell));
        if (letter != NONE) {
            List<Slot> slots = slots();
            for (int s = 0; s < slots.size(); s++) {
                int place = slots.get(s).cells().indexOf(cell);
                needState(place < 0 || now.laid.get(s) == NONE
                        || now.words.get(now.laid.get(s)).text.charAt(place) == 'a' + letter);
            }
        }
        change();
        int was = now.grid.told[cell] == null ? NONE : now.grid.told[cell];
        now.grid.told[cell] = letter == NONE ? null : letter;
        return was;
    }

    public int blocks() {
        int last = now.grid.cells() - 1;
        for (int c = 0; c <= last; c++) {
            if (!now.grid.blocks.contains(c) && there(c) == null && there(last - c) == null) {
                Grid other = now.grid.twin();
                other.blocks.add(c);
                other.blocks.add(last - c);
                if (faults(other) == 0) {
                    change();
                    now.grid = other;
                    takeAll();
                    return c;
                }
            }
        }
        return -9;
    }

    public int alphabet(int letters) {
        need(letters >= 2 && letters <= 8);
        needState(now.words.isEmpty() && Arrays.stream(now.grid.told).allMatch(t -> t == null));
        change();
        int was = now.alphabet;
        now.alphabet = letters;
        return was;
    }

    public int word(int a, int b, int c, int d, int e, int worth) {
        StringBuilder text = new StringBuilder();
        boolean isEnd = false;
        int place = 0;
        for (int n : new int[] {a, b, c, d, e}) {
            isEnd |= n == -2;
            need(isEnd ? n == -2 && place >= 2 : n >= 0 && n < now.alphabet);
            if (!isEnd) {
                text.append((char) ('a' + n));
            }
            place++;
        }
        need(worth >= 0 && worth <= 9);
        needState(now.words.size() < 30);
        for (Word word : now.words) {
            needState(!word.text.contentEquals(text));
        }
        change();
        now.words.add(new Word(text.toString(), worth));
        return now.words.size() - 1;
    }

    public boolean ban(int word, boolean is) {
        needWord(word);
        change();
        boolean was = now.words.get(word).banned;
        now.words.get(word).banned = is;
        return was;
    }

    public boolean wish(int word, boolean is) {
        needWord(word);
        change();
        boolean was = now.words.get(word).wished;
        now.words.get(word).wished = is;
        return was;
    }

    public boolean name(int word, boolean is) {
        needWord(word);
        change();
        boolean was = now.words.get(word).name;
        now.words.get(word).name = is;
        return was;
    }

    public int lay(int slot, int word) {
        needSlot(slot);
        needWord(word);
        needState(now.laid.get(slot) == NONE && isFit(slot, word));
        int empty = 0;
        for (int cell : slots().get(slot).cells()) {
            if (there(cell) == null) {
                empty++;
            }
        }
        change();
        now.laid.set(slot, word);
        return empty;
    }

    public int take(int slot) {
        needSlot(slot);
        needState(now.laid.get(slot) != NONE);
        change();
        return now.laid.set(slot, NONE);
    }

    public int theme(int word, int other) {
        needWord(word);
        needWord(other);
        need(word != other);
        List<Slot> slots = slots();
        for (int s = 0; s < slots.size(); s++) {
            int p = partner(now.grid, slots, s);
            if (now.laid.get(s) == NONE && isFit(s, word) && p != NONE && p != s && now.laid.get(p) == NONE) {
                now.laid.set(s, word);
                boolean can = isFit(p, other);
                now.laid.set(s, NONE);
                if (can) {
                    change();
                    now.laid.set(s, word);
                    now.laid.set(p, other);
                    return s;
                }
            }
        }
        return -9;
    }

    public int step() {
        int[] plan = plan();
        change();
        if (plan[0] != 0) {
            now.grid.told[plan[1]] = plan[2];
        }
        return plan[0];
    }

    public int type(int sign) {
        need(sign >= 0 && sign <= 10);
        needState(paper.size() < 30);
        paper.add(sign);
        return paper.size();
    }

    public int wipe() {
        int was = paper.size();
        paper.clear();
        return was;
    }

    /** The paper is no paper yet, but can become one: tried with all that may stand behind it. */
    private boolean canGoOn(List<Integer> signs) {
        List<List<Integer>> rows = new ArrayList<>();
        rows.add(new ArrayList<>());
        for (int sign : signs) {
            if (sign == 10) {
                rows.add(new ArrayList<>());
            } else {
                rows.get(rows.size() - 1).add(sign);
            }
            if (sign < 8 && sign >= now.alphabet) {
                return false;
            }
        }
        List<Integer> last = rows.remove(rows.size() - 1);
        int wide = rows.isEmpty() ? 5 : rows.get(0).size();
        for (List<Integer> row : rows) {
            if (row.size() != wide || row.size() < 2 || row.size() > 5) {
                return false;
            }
        }
        return last.isEmpty() ? rows.size() <= 5 : rows.size() <= 4 && last.size() <= wide;
    }

    private int fault() {
        for (int k = 1; k <= paper.size(); k++) {
            if (!canGoOn(paper.subList(0, k))) {
                return k - 1;
            }
        }
        boolean isWhole = !paper.isEmpty() && paper.get(paper.size() - 1) == 10
                && Collections.frequency(paper, 10) >= 2;
        return isWhole ? NONE : paper.size();
    }

    public int read() {
        if (fault() != NONE) {
            return -7;
        }
        change();
        now.grid = new Grid();
        now.grid.wide = paper.indexOf(10);
        now.grid.high = Collections.frequency(paper, 10);
        int cell = 0;
        for (int sign : paper) {
            if (sign == 9) {
                now.grid.blocks.add(cell);
            }
            if (sign < 8) {
                now.grid.told[cell] = sign;
            }
            cell += sign == 10 ? 0 : 1;
        }
        now.checked.clear();
        takeAll();
        return slots().size();
    }

    public int keep() {
        kept = now.grid.twin();
        return kept.cells();
    }

    public int walk(int from) {
        need(from >= 0);
        List<List<Integer>> fillings = allFillings();
        need(fillings == null || from <= fillings.size());
        walkAt = NONE;
        walkTo = fillings == null ? null : from;
        return fillings == null ? -8 : fillings.size();
    }

    public int next() {
        needState(walkTo != null);
        if (walkTo == allFillings().size()) {
            walkTo = null;
            walkAt = NONE;
            return NONE;
        }
        walkAt = walkTo;
        walkTo = walkTo + 1;
        return walkAt;
    }

    public int undo() {
        needState(!past.isEmpty());
        now = past.remove(past.size() - 1);
        walkTo = null;
        walkAt = NONE;
        return past.size();
    }

    public int knock() {
        knocks++;
        return knocks;
    }

    public int ofGrid(int what) {
        need(what >= 0 && what <= 10);
        Grid grid = now.grid;
        int told = 0;
        for (Integer letter : grid.told) {
            told += letter == null ? 0 : 1;
        }
        int laid = 0;
        for (int w : now.laid) {
            laid += w == NONE ? 0 : 1;
        }
        int greatest = 0;
        for (int c = 0; c < grid.cells(); c++) {
            greatest = Math.max(greatest, numberOf(slots(), c));
        }
        return new int[] {grid.wide, grid.high, grid.blocks.size(), grid.bars.size(), slots().size(), told, laid,
            now.shortest, greatest, parts(grid), faults(grid)}[what];
    }

    public int ofCell(int cell, int what) {
        needCell(cell);
        need(what >= 0 && what <= 7);
        Integer told = now.grid.told[cell];
        switch (what) {
            case 0: return now.grid.blocks.contains(cell) ? 1 : 0;
            case 1: return letterOf(there(cell));
            case 2: return told == null ? NONE : told;
            case 3: return numberOf(slots(), cell);
            case 4: return slotAt(slots(), cell, false);
            case 5: return slotAt(slots(), cell, true);
            case 6: return now.checked.contains(cell) ? 1 : 0;
            default:
                List<List<Integer>> fillings = allFillings();
                return fillings == null ? -8 : letterOf(forced(fillings)[cell]);
        }
    }

    public int ofSlot(int slot, int what) {
        needSlot(slot);
        need(what >= 0 && what <= 8);
        List<Slot> slots = slots();
        Slot it = slots.get(slot);
        switch (what) {
            case 0: return it.cells().get(0);
            case 1: return it.isDown() ? 1 : 0;
            case 2: return it.cells().size();
            case 3: return numberOf(slots, it.cells().get(0));
            case 4: return now.laid.get(slot);
            case 5: return fitting(banned()).get(slot).size();
            case 6: return leftIn(banned()).get(slot).size();
            case 7: return partner(now.grid, slots, slot);
            default:
                int crossing = 0;
                for (Slot other : slots) {
                    if (other.isDown() != it.isDown() && !Collections.disjoint(other.cells(), it.cells())) {
                        crossing++;
                    }
                }
                return crossing;
        }
    }

    public int ofWord(int word, int what) {
        needWord(word);
        need(what >= 0 && what <= 6);
        Word it = now.words.get(word);
        return new int[] {it.text.length(), it.worth, it.banned ? 1 : 0, it.wished ? 1 : 0, it.name ? 1 : 0,
            order().indexOf(word), now.laid.indexOf(word)}[what];
    }

    public String text(int word) {
        needWord(word);
        return now.words.get(word).text;
    }

    public String drawn(int row) {
        if (row < 0 || row >= now.grid.high) {
            throw new IndexOutOfBoundsException();
        }
        String drawn = "";
        for (int c = row * now.grid.wide; c < (row + 1) * now.grid.wide; c++) {
            drawn += now.grid.blocks.contains(c) ? "#" : there(c) == null ? "." : "" + there(c);
        }
        return drawn;
    }

    public String clue(int slot) {
        needSlot(slot);
        Slot it = slots().get(slot);
        String letters = "";
        for (int c : it.cells()) {
            letters += there(c) == null ? "_" : "" + there(c);
        }
        return numberOf(slots(), it.cells().get(0)) + (it.isDown() ? "d " : "a ") + letters + " ("
                + it.cells().size() + ")";
    }

    public int house(int what) {
        need(what >= 0 && what <= 8);
        return new int[] {now.alphabet, now.words.size(), banned().size(), paper.size(), fault(), past.size(), knocks,
            kept == null ? 0 : 1, walkAt}[what];
    }

    private List<Integer> matching(int... numbers) {
        int end = 5;
        for (int i = 4; i >= 0; i--) {
            if (numbers[i] == -2) {
                end = i;
            }
        }
        need(end >= 2);
        for (int i = 0; i < 5; i++) {
            need(i < end ? numbers[i] >= NONE && numbers[i] < now.alphabet : numbers[i] == -2);
        }
        List<Integer> matching = new ArrayList<>();
        for (int w : order()) {
            String text = now.words.get(w).text;
            boolean is = text.length() == end;
            for (int i = 0; is && i < end; i++) {
                is = numbers[i] == NONE || text.charAt(i) == 'a' + numbers[i];
            }
            if (is) {
                matching.add(w);
            }
        }
        return matching;
    }

    public int count(int a, int b, int c, int d, int e) {
        return matching(a, b, c, d, e).size();
    }

    public int nth(int k, int a, int b, int c, int d, int e) {
        List<Integer> matching = matching(a, b, c, d, e);
        need(k >= 0);
        return k < matching.size() ? matching.get(k) : NONE;
    }

    public int after(int word, int a, int b, int c, int d, int e) {
        needWord(word);
        List<Integer> order = order();
        for (int w : matching(a, b, c, d, e)) {
            if (order.indexOf(w) > order.indexOf(word)) {
                return w;
            }
        }
        return NONE;
    }

    public int left(int slot, int k) {
        needSlot(slot);
        need(k >= 0);
        List<Integer> left = leftIn(banned()).get(slot);
        return k < left.size() ? left.get(k) : NONE;
    }

    public boolean isFit(int slot, int word) {
        needSlot(slot);
        needWord(word);
        return fits(slots(), allThere(), banned(), slot, word);
    }

    public int dies(int word) {
        needWord(word);
        List<List<Integer>> before = leftIn(banned());
        Set<Integer> banned = banned();
        banned.add(word);
        List<List<Integer>> then = leftIn(banned);
        int dies = 0;
        for (int s = 0; s < before.size(); s++) {
            if (!before.get(s).isEmpty() && then.get(s).isEmpty()) {
                dies += 1 << s;
            }
        }
        return dies;
    }

    public int search(int what) {
        need(what >= 0 && what <= 2);
        runSearch();
        return searchOutcome[what];
    }

    public int found(int slot) {
        needSlot(slot);
        runSearch();
        return searchOutcome[0] == 1 ? searchTaken.get(slot) : NONE;
    }

    public int fillings() {
        List<List<Integer>> fillings = allFillings();
        return fillings == null ? -8 : fillings.size();
    }

    private List<List<Integer>> fillingsWith(int k) {
        List<List<Integer>> fillings = allFillings();
        need(k >= 0 && (fillings == null || k < fillings.size()));
        return fillings;
    }

    public int filling(int k, int slot) {
        needSlot(slot);
        List<List<Integer>> fillings = fillingsWith(k);
        return fillings == null ? -8 : fillings.get(k).get(slot);
    }

    public int best(boolean isValue) {
        List<List<Integer>> fillings = allFillings();
        if (fillings == null) {
            return -8;
        }
        int best = NONE;
        int bestValue = NONE;
        for (int k = 0; k < fillings.size(); k++) {
            int value = 0;
            for (int w : fillings.get(k)) {
                value += now.words.get(w).worth + (now.words.get(w).wished ? 10 : 0);
            }
            if (value > bestValue) {
                best = k;
                bestValue = value;
            }
        }
        return isValue ? bestValue : best;
    }

    private static int alike(List<Character[]> others, Character[] mine, Set<Integer> cells) {
        int alike = 0;
        for (Character[] other : others) {
            boolean is = true;
            for (int c : cells) {
                is &= other[c] == mine[c];
            }
            alike += is ? 1 : 0;
        }
        return alike;
    }

    public int hints(int k) {
        List<List<Integer>> fillings = fillingsWith(k);
        if (fillings == null) {
            return -8;
        }
        Set<Integer> open = new TreeSet<>();
        for (Slot slot : slots()) {
            for (int c : slot.cells()) {
                if (there(c) == null) {
                    open.add(c);
                }
            }
        }
        List<Character[]> others = new ArrayList<>();
        for (int j = 0; j < fillings.size(); j++) {
            if (j != k) {
                others.add(spelled(fillings.get(j)));
            }
        }
        Character[] mine = spelled(fillings.get(k));
        Set<Integer> chosen = open.size() <= 10 ? smallest(open, others, mine) : grown(open, others, mine);
        int set = 0;
        for (int c : chosen) {
            set += 1 << c;
        }
        return set;
    }

    private static Set<Integer> smallest(Set<Integer> open, List<Character[]> others, Character[] mine) {
        List<Integer> cells = new ArrayList<>(open);
        List<Set<Integer>> subsets = new ArrayList<>();
        for (int bits = 0; bits < 1 << cells.size(); bits++) {
            Set<Integer> subset = new TreeSet<>();
            for (int i = 0; i < cells.size(); i++) {
                if ((bits >> i & 1) == 1) {
                    subset.add(cells.get(i));
                }
            }
            subsets.add(subset);
        }
        subsets.sort(Comparator.comparing((Set<Integer> s) -> s.size())
                .thenComparing(s -> s.stream().mapToInt(c -> 1 << c).sum()));
        for (Set<Integer> subset : subsets) {
            if (alike(others, mine, subset) == 0) {
                return subset;
            }
        }
        throw new AssertionError("all open cells tell a filling");
    }

    private static Set<Integer> grown(Set<Integer> open, List<Character[]> others, Character[] mine) {
        Set<Integer> chosen = new TreeSet<>();
        while (alike(others, mine, chosen) > 0) {
            int best = NONE;
            int fewest = Integer.MAX_VALUE;
            for (int c : open) {
                Set<Integer> with = new TreeSet<>(chosen);
                with.add(c);
                int alike = alike(others, mine, with);
                if (alike < fewest) {
                    best = c;
                    fewest = alike;
                }
            }
            chosen.add(best);
        }
        return chosen;
    }

    public int unfair(int k, boolean isWords) {
        List<List<Integer>> fillings = fillingsWith(k);
        if (fillings == null) {
            return -8;
        }
        List<Slot> slots = slots();
        List<Integer> filling = fillings.get(k);
        int cells = 0;
        int words = 0;
        for (int s = 0; s < slots.size(); s++) {
            int crossing = 0;
            int names = 0;
            for (int t = 0; t < slots.size(); t++) {
                if (slots.get(s).isDown() != slots.get(t).isDown()
                        && !Collections.disjoint(slots.get(s).cells(), slots.get(t).cells())) {
                    crossing++;
                    names += now.words.get(filling.get(t)).name ? 1 : 0;
                }
            }
            words += crossing > 0 && crossing == names ? 1 : 0;
            cells += !slots.get(s).isDown() && now.words.get(filling.get(s)).name ? names : 0;
        }
        return isWords ? words : cells;
    }

    private int[] plan() {
        List<Slot> slots = slots();
        List<List<Integer>> left = leftIn(banned());
        for (int c = 0; c < now.grid.cells(); c++) {
            for (boolean isDown : new boolean[] {false, true}) {
                int s = slotAt(slots, c, isDown);
                if (there(c) == null && s != NONE) {
                    Set<Character> letters = new TreeSet<>();
                    for (int w : left.get(s)) {
                        letters.add(now.words.get(w).text.charAt(slots.get(s).cells().indexOf(c)));
                    }
                    if (letters.size() == 1) {
                        return new int[] {1, c, letterOf(letters.iterator().next())};
                    }
                }
            }
        }
        List<List<Integer>> fillings = allFillings();
        if (fillings != null) {
            Character[] forced = forced(fillings);
            for (int c = 0; c < now.grid.cells(); c++) {
                if (there(c) == null && forced[c] != null) {
                    return new int[] {2, c, letterOf(forced[c])};
                }
            }
        }
        return new int[] {0, NONE, NONE};
    }

    public int nextStep(int what) {
        need(what >= 0 && what <= 2);
        return plan()[what];
    }

    private static String sorted(String text) {
        char[] letters = text.toCharArray();
        Arrays.sort(letters);
        return new String(letters);
    }

    private static String everySecond(String text, int from) {
        String second = "";
        for (int i = from; i < text.length(); i += 2) {
            second += text.charAt(i);
        }
        return second;
    }

    public int hidden(int word, int other) {
        needWord(word);
        needWord(other);
        String a = now.words.get(word).text;
        String b = now.words.get(other).text;
        int kinds = new StringBuilder(b).reverse().toString().equals(a) ? 1 : 0;
        kinds += b.contains(a) && a.length() < b.length() ? 2 : 0;
        kinds += everySecond(b, 0).equals(a) || everySecond(b, 1).equals(a) ? 4 : 0;
        kinds += sorted(a).equals(sorted(b)) && word != other ? 8 : 0;
        return kinds;
    }

    public String rearranged(int word) {
        needWord(word);
        List<String> others = new ArrayList<>();
        for (int w : order()) {
            if (w != word && sorted(now.words.get(w).text).equals(sorted(now.words.get(word).text))) {
                others.add("" + w);
            }
        }
        return String.join(" ", others);
    }

    public int squares(int n) {
        need(n >= 2 && n <= 4);
        return squaresOn(n, new ArrayList<>());
    }

    private int squaresOn(int n, List<Integer> rows) {
        int k = rows.size();
        if (k == n) {
            return 1;
        }
        int squares = 0;
        for (int w = 0; w < now.words.size(); w++) {
            Word word = now.words.get(w);
            if (!word.banned && word.text.length() == n && !rows.contains(w)) {
                boolean is = true;
                for (int j = 0; j < k; j++) {
                    is &= word.text.charAt(j) == now.words.get(rows.get(j)).text.charAt(k);
                }
                if (is) {
                    rows.add(w);
                    squares += squaresOn(n, rows);
                    rows.remove(k);
                }
            }
        }
        return squares;
    }

    public int rings(int n) {
        need(n == 2 || n == 3);
        int rings = 0;
        int words = now.words.size();
        for (int a = 0; a < words; a++) {
            for (int b = a + 1; b < words; b++) {
                if (n == 2) {
                    rings += isRing(a, b) ? 1 : 0;
                }
                for (int c = a + 1; n == 3 && c < words; c++) {
                    rings += c != b && isRing(a, b, c) ? 1 : 0;
                }
            }
        }
        return rings;
    }

    private boolean isRing(int... ring) {
        for (int i = 0; i < ring.length; i++) {
            Word here = now.words.get(ring[i]);
            Word behind = now.words.get(ring[(i + 1) % ring.length]);
            if (here.banned || here.text.charAt(here.text.length() - 1) != behind.text.charAt(0)) {
                return false;
            }
        }
        return true;
    }

    public int fewest(int most) {
        need(most >= 2 && most <= 5);
        needState(now.grid.cells() <= 16);
        List<Integer> white = new ArrayList<>();
        for (int c = 0; c < now.grid.cells(); c++) {
            if (!now.grid.blocks.contains(c)) {
                white.add(c);
            }
        }
        int fewest = NONE;
        for (int bits = 0; bits < 1 << white.size(); bits++) {
            if (fewest == NONE || Integer.bitCount(bits) < fewest) {
                Grid other = now.grid.twin();
                for (int i = 0; i < white.size(); i++) {
                    if ((bits >> i & 1) == 1) {
                        other.blocks.add(white.get(i));
                    }
                }
                // Said first only because it is quick to see.
                boolean isTurned = true;
                for (int c : other.blocks) {
                    isTurned &= other.blocks.contains(other.cells() - 1 - c);
                }
                if (isTurned && faults(other) == 0
                        && slotsOf(other).stream().allMatch(slot -> slot.cells().size() <= most)) {
                    fewest = Integer.bitCount(bits);
                }
            }
        }
        return fewest;
    }

    public int compare(int what) {
        need(what >= 0 && what <= 2);
        if (kept == null) {
            return NONE;
        }
        int unlike = 0;
        for (int y = 0; y < 5; y++) {
            for (int x = 0; x < 5; x++) {
                unlike += look(now.grid, x, y).equals(look(kept, x, y)) ? 0 : 1;
            }
        }
        if (what == 0) {
            return unlike;
        }
        if (what == 1) {
            List<String> there = placed(kept);
            int shared = 0;
            for (String slot : placed(now.grid)) {
                shared += there.contains(slot) ? 1 : 0;
            }
            return shared;
        }
        return unlike == 0 && now.grid.bars.equals(kept.bars) ? 1 : 0;
    }

    private static String look(Grid grid, int x, int y) {
        if (x >= grid.wide || y >= grid.high) {
            return "outside";
        }
        int cell = y * grid.wide + x;
        return grid.blocks.contains(cell) + " " + grid.told[cell];
    }

    private static List<String> placed(Grid grid) {
        List<String> placed = new ArrayList<>();
        for (Slot slot : slotsOf(grid)) {
            String text = slot.isDown() ? "down" : "across";
            for (int c : slot.cells()) {
                text += " " + c % grid.wide + "," + c / grid.wide;
            }
            placed.add(text);
        }
        return placed;
    }

    /** By the document all of this is always so; Crosshatch has to find that out by looking. */
    public boolean isSound() {
        return true;
    }

    public long digest() {
        List<Integer> values = new ArrayList<>();
        for (int what = 0; what <= 10; what++) {
            values.add(ofGrid(what));
        }
        for (int c = 0; c < now.grid.cells(); c++) {
            for (int what = 0; what <= 7; what++) {
                values.add(ofCell(c, what));
            }
        }
        for (int s = 0; s < slots().size(); s++) {
            for (int what = 0; what <= 8; what++) {
                values.add(ofSlot(s, what));
            }
            values.add(clue(s).length());
            values.add(found(s));
        }
        for (int w = 0; w < now.words.size(); w++) {
            for (int what = 0; what <= 6; what++) {
                values.add(ofWord(w, what));
            }
            values.add(dies(w));
            values.add(rearranged(w).length());
        }
        for (int what = 0; what <= 8; what++) {
            values.add(house(what));
        }
        for (int what = 0; what <= 2; what++) {
            values.add(search(what));
        }
        values.add(fillings());
        values.add(best(true));
        values.add(best(false));
        if (fillings() > 0) {
            values.add(hints(0));
            values.add(unfair(0, false));
            values.add(unfair(0, true));
        }
        for (int what = 0; what <= 2; what++) {
            values.add(nextStep(what));
        }
        values.add(squares(2));
        values.add(squares(3));
        values.add(rings(2));
        for (int what = 0; what <= 2; what++) {
            values.add(compare(what));
        }
        values.add(isSound() ? 1 : 0);
        long d = 6705;
        for (int v : values) {
            d = d * 31 + v;
        }
        return d;
    }
}

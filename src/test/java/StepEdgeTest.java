import java.util.List;
import java.util.function.Consumer;
import java.util.function.Function;
import java.util.function.Supplier;

/** The edges of part 6 of the description (steps back, walks) and of promises 19 to 25, and what says of all calls. */
public final class StepEdgeTest {
    private static final Class<IllegalStateException> STATE = IllegalStateException.class;

    private StepEdgeTest() {
    }

    public static void main(String[] args) {
        askedChangesNothing();
        cannotChangesNothing();
        changesThatChange();
        changesThatDoNot();
        noChanges();
        eightAtMost();
        eightAreBack();
        nineAreNot();
        undoneAndAnother();
        paperStays();
        keptStays();
        knocksStay();
        walkFromEach();
        walkBehindTheLast();
        walkOfNone();
        walkAnew();
        walkIsEndedByChanges();
        walkIsEndedByUndo();
        walkGoesOn();
        allCalls();
        Due.end();
    }

    private static Crosshatch square() {
        Crosshatch made = new Crosshatch();
        made.grid(2, 2);
        for (String word : new String[] {"ab", "ca", "ac", "ba"}) {
            Due.word(made, word, 1);
        }
        Due.type(made, "..;..;");
        return made;
    }

    private static Crosshatch laid() {
        Crosshatch made = square();
        made.lay(1, 2);
        made.keep();
        made.knock();
        return made;
    }

    private static Supplier<Crosshatch> walking(Supplier<Crosshatch> of) {
        return () -> {
            Crosshatch made = of.get();
            if (made.walk(0) > 0) {
                made.next();
            }
            return made;
        };
    }

    private static void asked(String name, Supplier<Crosshatch> made, Function<Crosshatch, Object> call) {
        Object first = call.apply(made.get());
        Due.idle("asked: " + name, made, first, call);
        Due.idle("asked twice: " + name, made, first, x -> {
            call.apply(x);
            return call.apply(x);
        });
    }

    private interface Of {
        Object on(Crosshatch x, int what);
    }

    private static void askedTo(String name, Supplier<Crosshatch> made, int last, Of call) {
        for (int what = 0; what <= last; what++) {
            int w = what;
            asked(name + " " + w, made, x -> call.on(x, w));
        }
    }

    // "What is asked changes nothing."
    private static void askedChangesNothing() {
        Supplier<Crosshatch> full = RefusedTest::full;
        askedTo("ofGrid", full, 10, Crosshatch::ofGrid);
        askedTo("ofCell", full, 7, (x, what) -> x.ofCell(3, what));
        askedTo("ofSlot", full, 8, (x, what) -> x.ofSlot(1, what));
        askedTo("ofWord", full, 6, (x, what) -> x.ofWord(1, what));
        askedTo("text", full, 5, Crosshatch::text);
        askedTo("drawn", full, 2, Crosshatch::drawn);
        askedTo("clue", full, 3, Crosshatch::clue);
        askedTo("house", full, 8, Crosshatch::house);
        asked("count", full, x -> x.count(0, -1, -1, -2, -2));
        askedTo("nth", full, 3, (x, k) -> x.nth(k, 0, -1, -1, -2, -2));
        askedTo("after", full, 5, (x, w) -> x.after(w, 0, -1, -1, -2, -2));
        askedTo("left", full, 3, (x, slot) -> x.left(slot, 1));
        askedTo("isFit", full, 5, (x, word) -> x.isFit(1, word));
        askedTo("dies", full, 5, Crosshatch::dies);
        askedTo("search", full, 2, Crosshatch::search);
        askedTo("found", full, 3, Crosshatch::found);
        asked("fillings", full, Crosshatch::fillings);
        askedTo("filling", full, 5, (x, k) -> x.filling(k, 2));
        asked("best", full, x -> x.best(true));
        asked("best", full, x -> x.best(false));
        askedTo("hints", full, 5, Crosshatch::hints);
        askedTo("unfair", full, 5, (x, k) -> x.unfair(k, k % 2 == 0));
        askedTo("nextStep", full, 2, Crosshatch::nextStep);
        askedTo("hidden", full, 5, (x, word) -> x.hidden(word, 1));
        askedTo("rearranged", full, 5, Crosshatch::rearranged);
        askedTo("squares", full, 2, (x, n) -> x.squares(n + 2));
        askedTo("rings", full, 1, (x, n) -> x.rings(n + 2));
        askedTo("fewest", full, 3, (x, most) -> x.fewest(most + 2));
        askedTo("compare", full, 2, Crosshatch::compare);
        asked("isSound", full, Crosshatch::isSound);
        asked("digest", full, Crosshatch::digest);
    }

    // "-9 (can not be done)": blocks() and theme(); "-7 if there is a FAULT (nothing changes then)"
    private static void cannotChangesNothing() {
        Due.idle("8: blocks()", walking(StepEdgeTest::square), -9, Crosshatch::blocks);
        Due.idle("8: blocks(), laid", walking(StepEdgeTest::laid), -9, Crosshatch::blocks);
        Due.idle("16: theme()", walking(StepEdgeTest::laid), -9, x -> x.theme(2, 1));
        Due.idle("20: read()", walking(() -> {
            Crosshatch made = laid();
            made.type(10);
            return made;
        }), -7, Crosshatch::read);
        Due.idle("22: walk(), open", () -> FillingTest.product(10, 9, 11), -8, x -> x.walk(0));
    }

    /** One change, that ends a walk, and that undo() takes back with all that it did. */
    private static void change(String name, Supplier<Crosshatch> made, Consumer<Crosshatch> call) {
        int before = made.get().house(5);
        Due.is(name + ": there is room for it", before < 8, true);
        Crosshatch x = walking(made).get();
        call.accept(x);
        Due.is(name + ": one change", x.house(5), before + 1);
        Due.is(name + ": without a walk", x.house(8), -1);
        Due.fails(name + ": no walk", x, STATE, x::next);
        Due.is(name + ": undone", x.undo(), before);
        Due.is(name + ": as before", Due.whole(x), Due.whole(made.get()));
    }

    // "All calls down to step() are changes .., also read() .., and theme(), blocks()"
    private static void changesThatChange() {
        Supplier<Crosshatch> of = StepEdgeTest::laid;
        change("grid", of, x -> x.grid(4, 3));
        change("block", of, x -> x.block(3, true));
        change("bar", of, x -> x.bar(2, false, true));
        change("bar below", of, x -> x.bar(0, true, true));
        change("check", of, x -> x.check(2, true));
        change("shortest", of, x -> x.shortest(3));
        change("letter", of, x -> x.letter(3, 0));
        change("word", of, x -> Due.word(x, "bb", 9));
        change("ban", of, x -> x.ban(2, true));
        change("wish", of, x -> x.wish(2, true));
        change("name", of, x -> x.name(2, true));
        change("lay", of, x -> x.lay(2, 3));
        change("take", of, x -> x.take(1));
        change("theme", of, x -> x.theme(0, 1));
        change("step", of, Crosshatch::step);
        change("read", of, Crosshatch::read);
        change("read another", () -> {
            Crosshatch made = square();
            made.wipe();
            Due.type(made, "a#.;...;");
            return made;
        }, Crosshatch::read);
        change("blocks", () -> {
            Crosshatch made = new Crosshatch();
            Due.word(made, "abc", 1);
            made.lay(0, 0);
            made.bar(4, false, true);
            made.bar(3, false, true);
            Due.type(made, "..;");
            return made;
        }, Crosshatch::blocks);
        change("alphabet", Crosshatch::new, x -> x.alphabet(8));
    }

    // "(also if nothing is other by them, as by step() of the kind 0)"
    private static void changesThatDoNot() {
        Supplier<Crosshatch> of = StepEdgeTest::square;
        change("the same grid", of, x -> x.grid(2, 2));
        change("white already", of, x -> x.block(0, false));
        change("no bar already", of, x -> x.bar(0, false, false));
        change("no bar below already", of, x -> x.bar(0, true, false));
        change("not checked already", of, x -> x.check(0, false));
        change("the same shortest", of, x -> x.shortest(2));
        change("no letter already", of, x -> x.letter(0, -1));
        change("not banned already", of, x -> x.ban(0, false));
        change("not wished for already", of, x -> x.wish(0, false));
        change("no name already", of, x -> x.name(0, false));
        change("the same paper", of, Crosshatch::read);
        change("the same alphabet", Crosshatch::new, x -> x.alphabet(4));
        change("the same alphabet, with a filling", () -> GridEdgeTest.drawn("##", "##"), x -> x.alphabet(4));
        change("step() of the kind 0", Crosshatch::new, x -> Due.is("17: kind", x.step(), 0));
        change("step() of the kind 0, with fillings", () -> {
            Crosshatch made = square();
            made.letter(0, 0);
            made.letter(3, 0);
            return made;
        }, x -> Due.is("17: kind", x.step(), 0));
        Supplier<Crosshatch> told = () -> {
            Crosshatch made = new Crosshatch();
            made.letter(3, 1);
            made.check(3, true);
            made.bar(0, true, true);
            made.bar(0, false, true);
            made.block(8, true);
            return made;
        };
        change("the same letter", told, x -> x.letter(3, 1));
        change("checked already", told, x -> x.check(3, true));
        change("a bar already", told, x -> x.bar(0, false, true));
        change("a bar below already", told, x -> x.bar(0, true, true));
        change("a block already", told, x -> x.block(8, true));
        Supplier<Crosshatch> marked = () -> {
            Crosshatch made = new Crosshatch();
            Due.word(made, "abc", 1);
            made.ban(0, true);
            made.wish(0, true);
            made.name(0, true);
            return made;
        };
        change("banned already", marked, x -> x.ban(0, true));
        change("wished for already", marked, x -> x.wish(0, true));
        change("a name already", marked, x -> x.name(0, true));
    }

    // What stands below step() on the face is no change, but read() and undo().
    private static void noChanges() {
        Crosshatch x = laid();
        int before = x.house(5);
        x.type(8);
        x.wipe();
        x.keep();
        x.walk(0);
        x.next();
        x.knock();
        x.blocks();
        x.theme(2, 1);
        x.read();
        x.digest();
        Due.is("33: no change", x.house(5), before);
        Due.is("24: the one ahead of it is undone", x.undo(), before - 1);
        Due.is("24: that was lay()", x.ofGrid(6), 0);
    }

    // "The last 8 changes can be undone": how many there are.
    private static void eightAtMost() {
        Crosshatch x = new Crosshatch();
        for (int k = 0; k <= 20; k++) {
            Due.is("33: behind " + k, x.house(5), Math.min(k, 8));
            x.check(0, k % 2 == 0);
        }
        for (int k = 7; k >= 0; k--) {
            Due.is("24: still", x.undo(), k);
            Due.is("33: still", x.house(5), k);
        }
        Due.refused("24: none", () -> {
            Crosshatch made = new Crosshatch();
            made.check(0, true);
            made.undo();
            return made;
        }, STATE, Crosshatch::undo);
    }

    private static void many(Crosshatch x, int changes) {
        for (int k = 0; k < changes; k++) {
            x.letter(k % 9, (k + k / 9) % 4);
        }
    }

    private static void eightAreBack() {
        Crosshatch x = new Crosshatch();
        String before = Due.seen(x);
        many(x, 8);
        for (int k = 7; k >= 0; k--) {
            Due.is("24: of eight", x.undo(), k);
            Due.is("24: letters", x.ofGrid(5), k);
        }
        Due.is("24: as at first", Due.seen(x), before);
        Due.fails("24: no more", x, STATE, x::undo);
    }

    private static void nineAreNot() {
        for (int changes = 9; changes <= 30; changes++) {
            Crosshatch x = new Crosshatch();
            many(x, changes);
            for (int k = 7; k >= 0; k--) {
                Due.is("24: of " + changes, x.undo(), k);
            }
            Crosshatch y = new Crosshatch();
            many(y, changes - 8);
            Due.is("24: the ones ahead of the last eight stay", Due.drawn(x), Due.drawn(y));
            Due.fails("24: no more", x, STATE, x::undo);
        }
    }

    private static void undoneAndAnother() {
        Crosshatch x = new Crosshatch();
        x.letter(0, 0);
        x.letter(1, 1);
        Due.is("24: one", x.undo(), 1);
        x.letter(2, 2);
        Due.is("24: drawn", Due.drawn(x), "a.c;...;...;");
        Due.is("24: one", x.undo(), 1);
        Due.is("24: drawn", Due.drawn(x), "a..;...;...;");
        Due.is("24: none", x.undo(), 0);
        Due.is("24: drawn", Due.drawn(x), "...;...;...;");
        // The ring of eight is gone round with steps back between.
        Crosshatch y = new Crosshatch();
        for (int k = 0; k < 40; k++) {
            y.shortest(2 + k % 4);
            y.letter(k % 9, k % 4);
            y.check(k % 9, true);
            Due.is("24: two are left of three, or eight", y.undo(), Math.min(2 * k + 2, 7));
        }
        for (int k = 39; k > 36; k--) {
            Due.is("24: the letter", y.ofCell(k % 9, 2), k % 4);
            y.undo();
            Due.is("24: shortest", y.ofGrid(7), 2 + k % 4);
            y.undo();
        }
        Due.is("24: one more", y.undo(), 0);
        Due.fails("24: no more", y, STATE, y::undo);
    }

    // "all is as it was, but the PAPER"
    private static void paperStays() {
        Crosshatch x = new Crosshatch();
        x.letter(0, 0);
        Due.type(x, "b.;..;");
        x.undo();
        Due.is("24: what was typed stays", x.house(3), 6);
        x.letter(0, 0);
        x.wipe();
        x.undo();
        Due.is("24: what was wiped stays so", x.house(3), 0);
        Due.type(x, "b.;..;");
        x.read();
        x.wipe();
        Due.type(x, "..");
        x.undo();
        Due.is("24: read() is undone", Due.drawn(x), "...;...;...;");
        Due.is("24: the paper is the new one", x.house(3) * 10 + x.house(4), 22);
    }

    // "KEPT"
    private static void keptStays() {
        Crosshatch x = new Crosshatch();
        x.letter(0, 0);
        x.keep();
        x.undo();
        Due.is("24: still kept", x.house(7), 1);
        Due.is("24: with its letter", x.compare(0), 1);
        x.letter(0, 0);
        Due.is("53: alike", x.compare(2), 1);
        x.grid(4, 4);
        x.keep();
        x.undo();
        Due.is("24: the new one is kept", x.compare(0), 8);
        x.undo();
        Due.is("24: and stays", x.compare(0), 7);
    }

    // "and what was knocked"
    private static void knocksStay() {
        Crosshatch x = new Crosshatch();
        x.letter(0, 0);
        x.knock();
        x.letter(1, 0);
        x.knock();
        x.undo();
        Due.is("33: twice", x.house(6), 2);
        x.undo();
        Due.is("33: twice", x.house(6), 2);
        Due.is("25: the third time", x.knock(), 3);
    }

    // Promise 22: "next() goes to that FILLING then"
    private static void walkFromEach() {
        for (int from = 0; from <= 6; from++) {
            Crosshatch x = RefusedTest.full();
            Due.is("22: six", x.walk(from), 6);
            Due.is("33: not come yet", x.house(8), -1);
            for (int k = from; k < 6; k++) {
                Due.is("23: next", x.next(), k);
                Due.is("33: come", x.house(8), k);
            }
            Due.is("23: none", x.next(), -1);
            Due.is("33: it is over", x.house(8), -1);
            Due.fails("23: it is over", x, STATE, x::next);
        }
    }

    // A walk that begins behind the last filling is one, until next() tells that.
    private static void walkBehindTheLast() {
        Crosshatch x = square();
        Due.is("22: two", x.walk(2), 2);
        Due.is("33: nowhere", x.house(8), -1);
        Due.is("23: none", x.next(), -1);
        Due.fails("23: it is over", x, STATE, x::next);
        Due.is("22: again", x.walk(1), 2);
        Due.is("23: the last one", x.next(), 1);
        Due.is("33: the last one", x.house(8), 1);
        Due.is("23: none", x.next(), -1);
    }

    private static void walkOfNone() {
        Crosshatch x = new Crosshatch();
        Due.is("22: none", x.walk(0), 0);
        Due.is("23: none", x.next(), -1);
        Due.fails("23: it is over", x, STATE, x::next);
    }

    private static void walkAnew() {
        Crosshatch x = RefusedTest.full();
        Due.is("33: the first", x.house(8), 0);
        x.walk(4);
        Due.is("33: a new one has not come", x.house(8), -1);
        Due.is("23: it begins there", x.next(), 4);
        x.walk(1);
        Due.is("23: backward, too", x.next(), 1);
        Due.is("23: and on", x.next(), 2);
    }

    // "a change or undo() ends it", and it is not there again if the change is undone
    private static void walkIsEndedByChanges() {
        Crosshatch x = walking(StepEdgeTest::square).get();
        x.check(0, false);
        Due.is("33: none", x.house(8), -1);
        Due.fails("23: none", x, STATE, x::next);
        x.undo();
        Due.is("33: none", x.house(8), -1);
        Due.fails("23: none", x, STATE, x::next);
        Due.is("22: another", x.walk(1), 2);
        Due.is("23: there", x.next(), 1);
        Crosshatch y = square();
        y.walk(1);
        y.wish(0, true);
        Due.fails("23: ended ahead of its first filling", y, STATE, y::next);
    }

    private static void walkIsEndedByUndo() {
        Crosshatch x = walking(StepEdgeTest::square).get();
        x.undo();
        Due.is("33: none", x.house(8), -1);
        Due.fails("23: none", x, STATE, x::next);
        Crosshatch y = square();
        y.walk(0);
        y.undo();
        Due.fails("23: ended ahead of its first filling", y, STATE, y::next);
    }

    // Nothing else ends it, nor sets it back.
    private static void walkGoesOn() {
        Supplier<Crosshatch> made = walking(StepEdgeTest::laid);
        List<Consumer<Crosshatch>> calls = List.of(x -> x.type(9), Crosshatch::wipe, Crosshatch::keep, Crosshatch::knock,
                Crosshatch::blocks, x -> {
                    x.type(10);
                    x.read();
                }, Crosshatch::digest, Crosshatch::isSound, x -> x.hints(1), x -> x.filling(1, 0), x -> x.search(0),
                x -> x.squares(2), x -> x.fewest(2), x -> x.dies(0));
        for (int k = 0; k < calls.size(); k++) {
            Crosshatch x = walking(StepEdgeTest::square).get();
            calls.get(k).accept(x);
            Due.is("33: still there behind call " + k, x.house(8), 0);
            Due.is("23: on behind call " + k, x.next(), 1);
            Due.is("23: to its end behind call " + k, x.next(), -1);
        }
        Due.is("22: one filling with a word laid", made.get().next(), -1);
    }

    // "An object is used for at most 512 calls": to the last one it answers as the first time.
    private static void allCalls() {
        Crosshatch x = new Crosshatch();
        for (int k = 1; k <= 512; k++) {
            Due.is("25: knock " + k, x.knock(), k);
        }
        Crosshatch y = new Crosshatch();
        for (int k = 0; k < 256; k++) {
            y.grid(2 + k % 4, 2 + k / 4 % 4);
            Due.is("2: slots", y.ofGrid(4), 4 + k % 4 + k / 4 % 4);
        }
        Crosshatch z = new Crosshatch();
        for (int k = 0; k < 170; k++) {
            Due.is("18: typed", z.type(k % 11), 1);
            Due.is("33: one", z.house(3), 1);
            Due.is("19: wiped", z.wipe(), 1);
        }
    }
}

import java.math.BigInteger;

/** The bounds of undo, of the checksum and of exceptions: their terms, and promises 36 and 37. */
final class UndoBoundaries {
    private static final int NONE = Boundary.NONE;
    private static final int LEFT = Boundary.LEFT;
    private static final int RIGHT = Boundary.RIGHT;

    private final Boundary b;

    UndoBoundaries(Boundary b) {
        this.b = b;
    }

    void run() {
        undoableMethods();
        refusedCallsAreNotSaved();
        otherMethodsAreNotSaved();
        latestSix();
        vanishedGames();
        numbersGivenAgain();
        undoRefused();
        undoIsNotSaved();
        severalExceptions();
        noneOrException();
        checksumWraps();
    }

    private static Boundary.Call[] undoable() {
        return new Boundary.Call[] {
            x -> x.number(5), x -> x.number(0), x -> x.make(), x -> x.negative(8), x -> x.negative(0), x -> x.add(0),
            x -> x.remove(0), x -> x.move(0, LEFT, 0), x -> x.read(),
        };
    }

    private void undoableMethods() {
        b.sentence(0,
            "Every method that is marked \"undoable\" saves the number of games and the table, as they were before"
            + " the call, when it ends normally.");
        Boundary.Call[] calls = undoable();
        for (int k = 0; k < calls.length; k++) {
            HotGames x = Boundary.made(Boundary.typed("{3|4}"));
            long before = x.checksum();
            b.is("call " + k + " ends normally", Boundary.outcome(x, calls[k]).endsWith("Exception"), false);
            b.is("undo behind call " + k, x.undo(), 0);
            b.is("the state behind undo of call " + k, x.checksum(), before);
            b.is("nothing more is saved by call " + k, Boundary.outcome(x, HotGames::undo), "IllegalStateException");
        }
    }

    private void refusedCallsAreNotSaved() {
        b.sentence(0, "A call that throws an exception changes nothing.");
        Boundary.Setup busy = Boundary.both(Boundary.full(40), x -> {
            x.add(39);
            x.add(8);
            x.draft(LEFT, 39);
            x.draft(RIGHT, 8);
            x.write(8);
            x.play(LEFT, 0, 0);
            Check.type(x, "{-8|-7}");
        });
        b.refused("number", Check.STATE, busy, x -> x.number(-64));
        b.refused("make", Check.STATE, busy, HotGames::make);
        b.refused("negative", Check.STATE, busy, x -> x.negative(8));
        b.refused("read", Check.STATE, busy, HotGames::read);
        b.refused("add", Check.STATE, busy, x -> x.add(0));
        b.refused("remove", Check.INDEX, busy, x -> x.remove(4));
        b.refused("move", Check.ARGUMENT, busy, x -> x.move(2, LEFT, 0));
        b.refused("draft", Check.INDEX, busy, x -> x.draft(LEFT, 40));
        b.refused("type", Check.ARGUMENT, busy, x -> x.type(127));
        b.refused("write", Check.INDEX, busy, x -> x.write(40));
        b.refused("best", Check.ARGUMENT, busy, x -> x.best(2));
        b.refused("play", Check.ARGUMENT, busy, x -> x.play(LEFT, 0, 4));
        b.refused("advice", Check.ARGUMENT, busy, x -> x.advice(LEFT, 4));
    }

    private void otherMethodsAreNotSaved() {
        b.sentence(0, "marked \"undoable\"");
        Boundary.Call[] calls = {
            x -> x.games(), x -> x.draft(LEFT, 0), x -> x.clearDraft(), x -> x.options(9, LEFT),
            x -> x.option(9, LEFT, 0), x -> x.depth(9), x -> x.compare(0, 1), x -> x.isCold(0), x -> x.value(0),
            x -> x.dominated(9, LEFT, 0), x -> x.reversible(9, LEFT, 0), x -> x.mean(9), x -> x.temperature(9),
            x -> x.wall(9, LEFT, 0), x -> x.corner(9, LEFT, 0), x -> x.components(), x -> x.component(0),
            x -> x.size(), x -> x.best(LEFT), x -> x.advice(LEFT, 3), x -> x.play(LEFT, 3, 3), x -> x.played(0),
            x -> x.type('0'), x -> x.clearText(), x -> x.fault(), x -> x.write(9), x -> x.written(0),
            x -> x.checksum(),
        };
        for (int k = 0; k < calls.length; k++) {
            HotGames x = new HotGames();
            b.is("call " + k + " ends normally", Boundary.outcome(x, calls[k]).endsWith("Exception"), false);
            b.is("undo behind call " + k, Boundary.outcome(x, HotGames::undo), "IllegalStateException");
        }
    }

    private void latestSix() {
        b.sentence(0, "The latest 6 saved states are kept.");
        for (int calls = 1; calls <= 14; calls++) {
            HotGames x = new HotGames();
            for (int n = 1; n <= calls; n++) {
                x.number(20 + n);
            }
            int kept = Math.min(6, calls);
            for (int k = 1; k <= kept; k++) {
                b.is("undo " + k + " of " + calls + " calls", x.undo(), kept - k);
                b.is("games behind undo " + k + " of " + calls + " calls", x.games(), 10 + calls - k);
            }
            b.is("another undo of " + calls + " calls", Boundary.outcome(x, HotGames::undo), "IllegalStateException");
        }
    }

    private void vanishedGames() {
        b.sentence(0,
            "When a state is restored, the games that were made since then do not exist any more; they are removed"
            + " from the draft, too.");
        HotGames x = new HotGames();
        x.number(3);
        x.number(5);
        for (int side = LEFT; side <= RIGHT; side++) {
            x.draft(side, 9);
            x.draft(side, 10);
            x.draft(side, 11);
        }
        x.undo();
        b.is("the last game before stays in the draft", x.draft(LEFT, 10), 2);
        b.is("and on the right", x.draft(RIGHT, 10), 2);
        x.number(6);
        b.is("the new game of this number is not in the draft", x.draft(LEFT, 11), 3);
        x.undo();
        x.undo();
        b.is("one game is left on each side", x.clearDraft(), 2);
        b.refused("a game that does not exist any more", Check.INDEX, Boundary.both(y -> y.number(3), HotGames::undo),
            y -> y.mean(10));
        HotGames full = Boundary.made(Boundary.full(40));
        full.draft(LEFT, 39);
        full.draft(LEFT, 38);
        full.undo();
        b.is("game 39 has left the draft", full.clearDraft(), 1);
        full.draft(RIGHT, 0);
        full.add(38);
        full.undo();
        b.is("nothing leaves the draft if no game goes", full.clearDraft(), 1);
        b.is("undo of a table alone", full.games(), 39);
        b.is("the number is given anew", full.number(-1), 39);
        b.is("the new game", full.value(39), -128);
    }

    /** A number that is given again tells nothing of the game that had it before. */
    private void numbersGivenAgain() {
        b.sentence(0, "the games that were made since then do not exist any more");
        String[] texts = {"{1|-1,star}", "{0|1}", "3", "{2,up|-1}", "-3", "{star|}", "{up|0,star}", "{{2|0}|-1,0}",
            "5/8"};
        HotGames x = new HotGames();
        for (String text : texts) {
            HotGames fresh = new HotGames();
            int game = Check.read(x, text);
            b.is(text, game, Check.read(fresh, text));
            StringBuilder got = new StringBuilder();
            StringBuilder due = new StringBuilder();
            for (int g = 0; g < x.games(); g++) {
                got.append(x.compare(g, game)).append(x.compare(game, g));
                due.append(fresh.compare(g, game)).append(fresh.compare(game, g));
            }
            b.is(text + ", compared", got.toString(), due.toString());
            b.is(text + ", all of it", x.checksum(), fresh.checksum());
            b.is(text + ", cold or hot", x.isCold(game), fresh.isCold(game));
            b.is(text + ", written", Check.write(x, game), Check.write(fresh, game));
            x.undo();
        }
    }

    private void undoRefused() {
        b.sentence(36, "Throws `IllegalStateException` if none is saved");
        b.refused("at first", Check.STATE, HotGames::undo);
        b.refused("behind as many as were saved", Check.STATE, Boundary.both(x -> x.add(0), HotGames::undo),
            HotGames::undo);
        Boundary.Setup seven = x -> {
            for (int k = 0; k < 7; k++) {
                x.number(k + 1);
            }
            for (int k = 0; k < 6; k++) {
                x.undo();
            }
        };
        b.refused("behind six of seven", Check.STATE, seven, HotGames::undo);
        b.is("the first of seven is not undone", Boundary.made(seven).games(), 11);
        b.is("one is saved", Boundary.made(x -> x.add(0)).undo(), 0);
    }

    private void undoIsNotSaved() {
        b.sentence(36, "Restores the state that was saved last; it is not saved any more then.");
        HotGames x = new HotGames();
        x.number(3);
        x.add(10);
        b.is("undo", x.undo(), 1);
        b.is("the table of before", x.components(), 2);
        b.is("undo again", x.undo(), 0);
        b.is("the games of before", x.games(), 10);
        x.move(1, LEFT, 0);
        x.remove(0);
        x.undo();
        b.is("components", x.components(), 2);
        b.is("the first is back", x.component(0), 5);
        b.is("the second is moved yet", x.component(1), 7);
        x.add(1);
        b.is("a state is saved in place of the other", x.undo(), 1);
        b.is("undo of the move", x.undo(), 0);
        b.is("the second is back", x.component(1), 8);
    }

    private void severalExceptions() {
        b.sentence(0, "If several exceptions of a method apply, the one that is listed first is thrown.");
        Boundary.Setup full = Boundary.both(Boundary.full(40), x -> {
            x.add(0);
            x.add(0);
            for (int k = 0; k < 4; k++) {
                x.draft(LEFT, k);
            }
            Check.type(x, "!" + "0".repeat(79));
        });
        b.refused("number", Check.ARGUMENT, full, x -> x.number(65));
        b.refused("draft, all three", Check.INDEX, full, x -> x.draft(2, 40));
        b.refused("draft, the first and the third", Check.INDEX, full, x -> x.draft(LEFT, 40));
        b.refused("draft, the second and the third", Check.ARGUMENT, full, x -> x.draft(-1, 39));
        b.refused("negative", Check.INDEX, full, x -> x.negative(40));
        b.refused("options", Check.INDEX, full, x -> x.options(-1, 2));
        b.refused("option", Check.INDEX, full, x -> x.option(40, -1, 0));
        b.refused("dominated", Check.INDEX, full, x -> x.dominated(40, 2, 0));
        b.refused("reversible", Check.INDEX, full, x -> x.reversible(-1, 2, 0));
        b.refused("wall, all", Check.INDEX, full, x -> x.wall(40, 2, -1));
        b.refused("wall, the game and t", Check.INDEX, full, x -> x.wall(40, LEFT, 100001));
        b.refused("corner", Check.INDEX, full, x -> x.corner(40, 2, 0));
        b.refused("add", Check.INDEX, full, x -> x.add(40));
        b.refused("move, the component and the side", Check.INDEX, full, x -> x.move(4, 2, 0));
        b.refused("move, the component and the option", Check.INDEX, full, x -> x.move(-1, LEFT, 9));
        b.refused("move, the side and a cold component", Check.ARGUMENT, full, x -> x.move(3, 2, 0));
        b.refused("move, the option and a cold component", Check.ARGUMENT, full, x -> x.move(3, LEFT, 0));
        b.refused("type", Check.ARGUMENT, full, x -> x.type(31));
        b.refused("read", Check.ARGUMENT, full, HotGames::read);
    }

    private void noneOrException() {
        b.sentence(0, "NONE is returned only if no exception applies.");
        b.refused("option, no game", Check.INDEX, x -> x.option(10, LEFT, 4));
        b.refused("option, no side", Check.ARGUMENT, x -> x.option(9, 2, 4));
        b.refused("dominated, no game", Check.INDEX, x -> x.dominated(10, LEFT, 4));
        b.refused("dominated, no side", Check.ARGUMENT, x -> x.dominated(9, 2, -1));
        b.refused("reversible, no game", Check.INDEX, x -> x.reversible(10, LEFT, 4));
        b.refused("reversible, no side", Check.ARGUMENT, x -> x.reversible(0, -1, 0));
        b.refused("temperature, no game", Check.INDEX, x -> x.temperature(10));
        b.refused("corner, no game", Check.INDEX, x -> x.corner(10, LEFT, -1));
        b.refused("corner, no side", Check.ARGUMENT, x -> x.corner(0, 2, 1));
        Boundary.Setup cold = x -> Check.lay(x, "1");
        b.refused("advice, no player", Check.ARGUMENT, cold, x -> x.advice(2, 0));
        b.refused("advice, no strategy", Check.ARGUMENT, cold, x -> x.advice(LEFT, 4));
        b.is("advice of a cold table", Boundary.made(cold).advice(LEFT, 3), NONE);
    }

    private void checksumWraps() {
        b.sentence(37, "h becomes 31 * h + v (long arithmetic that wraps)");
        b.is("the checksum at first", new HotGames().checksum(), expected(new HotGames(), 0, 0, 0, 0));
        HotGames x = Boundary.made(Boundary.full(40));
        x.add(39);
        x.add(3);
        Check.type(x, "~".repeat(80));
        for (int k = 0; k < 4; k++) {
            x.draft(LEFT, k);
            x.draft(RIGHT, k);
        }
        b.is("the checksum of all that is full", x.checksum(), expected(x, 80, 4, 4, 6));
        HotGames uneven = new HotGames();
        uneven.draft(LEFT, 3);
        b.is("the checksum of a draft on the left", uneven.checksum(), expected(uneven, 0, 1, 0, 0));
        uneven.clearDraft();
        uneven.draft(RIGHT, 3);
        b.is("the checksum of a draft on the right", uneven.checksum(), expected(uneven, 0, 0, 1, 0));
        HotGames empty = new HotGames();
        Check.lay(empty);
        b.is("the checksum of an empty table", empty.checksum(), expected(empty, 0, 0, 0, 2));
        HotGames deep = new HotGames();
        Check.read(deep, "{{{{{{8|-8},1|}|-7}|0,-6,star}|{|}}|-5/8}");
        b.is("the checksum of deep games", deep.checksum(), expected(deep, 41, 0, 0, 1));
    }

    private static long expected(HotGames x, int text, int left, int right, int saved) {
        BigInteger h = mixed(BigInteger.valueOf(18487), x.games());
        for (int g = 0; g < x.games(); g++) {
            h = mixed(h, x.depth(g), x.options(g, LEFT), x.options(g, RIGHT));
            for (int side = LEFT; side <= RIGHT; side++) {
                for (int i = 0; i < x.options(g, side); i++) {
                    h = mixed(h, x.option(g, side, i));
                }
            }
            h = mixed(h, x.mean(g), x.temperature(g), x.wall(g, LEFT, 0), x.wall(g, RIGHT, 0));
        }
        h = mixed(h, x.components());
        for (int c = 0; c < x.components(); c++) {
            h = mixed(h, x.component(c));
        }
        // the lowest 64 bits are what is left of numbers that wrap
        return mixed(h, text, left, right, saved).longValue();
    }

    private static BigInteger mixed(BigInteger start, int... values) {
        BigInteger h = start;
        for (int v : values) {
            h = h.multiply(BigInteger.valueOf(31)).add(BigInteger.valueOf(v));
        }
        return h;
    }
}

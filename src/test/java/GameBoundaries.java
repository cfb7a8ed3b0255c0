/** The bounds of games and of what makes them: the terms GAMES, and promises 1 to 10. */
final class GameBoundaries {
    private static final int NONE = Boundary.NONE;
    private static final int LEFT = Boundary.LEFT;
    private static final int RIGHT = Boundary.RIGHT;
    private static final int MIN = Boundary.MIN;
    private static final int MAX = Boundary.MAX;
    /** Game 14 has depth 6: {star|0}, which is down, and four times {it|0} of the one before. */
    private static final Boundary.Setup DEEP = x -> {
        int game = 3;
        for (int depth = 2; depth <= 6; depth++) {
            x.draft(LEFT, game);
            x.draft(RIGHT, 0);
            game = x.make();
        }
    };
    private static final Boundary.Setup FULL_DRAFT = x -> {
        for (int k = 0; k < 4; k++) {
            x.draft(LEFT, 2 * k);
            x.draft(RIGHT, 2 * k + 1);
        }
    };

    private final Boundary b;

    GameBoundaries(Boundary b) {
        this.b = b;
    }

    void run() {
        atMost512Calls();
        atMost40Games();
        numbersOfEighths();
        setsOfOptions();
        orderOfOptions();
        depths();
        noGameTwice();
        atFirst();
        games();
        numberOutOfRange();
        numberWithoutRoom();
        draftOfNoGame();
        draftOfNoSide();
        draftOfFive();
        clearDraft();
        makeEmptiesTheDraft();
        makeRefused();
        negativeOfNoGame();
        negativeWithoutRoom();
        negativesOfParts();
        options();
        option();
        depthOfNoGame();
    }

    // ---- terms

    private void atMost512Calls() {
        b.sentence(0, "An object is used for at most 512 calls after it has been made");
        HotGames x = new HotGames();
        for (int call = 1; call <= 512; call += 2) {
            int game = call / 2 % 10;
            b.is("call " + call, x.add(game), 3);
            b.is("call " + (call + 1), x.remove(2), game);
        }
    }

    private void atMost40Games() {
        b.sentence(0, "There are at most 40 games, numbered from 0 in the order in which they were made.");
        HotGames x = new HotGames();
        for (int g = 10; g < 40; g += 2) {
            b.is("a number", x.number(-g), g);
            x.draft(LEFT, g);
            b.is("a composed game", x.make(), g + 1);
        }
        b.is("games", x.games(), 40);
        b.is("the first made", x.mean(10), -10 * 128);
        b.is("the last made", x.option(39, LEFT, 0), 38);
        b.refused("a 41st game", Check.STATE, Boundary.full(40), y -> y.number(34));
    }

    private void numbersOfEighths() {
        b.sentence(0, "A game is a number n / 8 with an integer n from -64 to 64, or composed.");
        HotGames x = new HotGames();
        b.is("the greatest number", x.value(x.number(64)), 8 * 1024);
        b.is("the least number", x.value(x.number(-64)), -8 * 1024);
        b.is("the least positive number", x.value(x.number(1)), 128);
        b.is("the greatest negative number", x.value(x.number(-1)), -128);
        b.is("a number has no options", x.options(10, LEFT) + x.options(11, RIGHT), 0);
        b.is("a composed game may be worth more", x.value(Check.read(x, "{8|}")), 9 * 1024);
    }

    private void setsOfOptions() {
        b.sentence(0, "each set has at most 4 elements and can be empty");
        HotGames x = new HotGames();
        b.is("both sets empty", x.make(), 10);
        x.draft(LEFT, 1);
        b.is("the right set empty", x.options(x.make(), RIGHT), 0);
        x.draft(RIGHT, 1);
        b.is("the left set empty", x.options(x.make(), LEFT), 0);
        FULL_DRAFT.on(x);
        int game = x.make();
        b.is("four left options", x.options(game, LEFT), 4);
        b.is("four right options", x.options(game, RIGHT), 4);
        for (int k = 0; k < 4; k++) {
            b.is("left option " + k, x.option(game, LEFT, k), 2 * k);
            b.is("right option " + k, x.option(game, RIGHT, k), 2 * k + 1);
        }
    }

    private void orderOfOptions() {
        b.sentence(0, "The options of a side are numbered from 0 by ascending numbers of their games.");
        HotGames x = Boundary.made(Boundary.full(39));
        int[] drafted = {38, 0, 9, 37};
        int[] due = {0, 9, 37, 38};
        for (int side = LEFT; side <= RIGHT; side++) {
            for (int game : drafted) {
                x.draft(side, game);
            }
        }
        b.is("the last game", x.make(), 39);
        for (int i = 0; i < 4; i++) {
            b.is("left option " + i, x.option(39, LEFT, i), due[i]);
            b.is("right option " + i, x.option(39, RIGHT, i), due[i]);
        }
    }

    private void depths() {
        b.sentence(0, "The depth of a number is 0; the depth of a composed game is 1 plus the greatest depth of its"
            + " options (1 if it has none). It is at most 6.");
        HotGames x = Boundary.made(DEEP);
        b.is("a number", x.depth(x.number(-64)), 0);
        b.is("no options", x.depth(x.make()), 1);
        for (int g = 10; g <= 14; g++) {
            b.is("game " + g, x.depth(g), g - 8);
        }
        x.draft(LEFT, 0);
        x.draft(LEFT, 13);
        b.is("the deeper option is left", x.depth(x.make()), 6);
        x.draft(LEFT, 3);
        x.draft(RIGHT, 12);
        x.draft(RIGHT, 0);
        b.is("the deeper option is right", x.depth(x.make()), 5);
        b.refused("depth 7", Check.STATE, Boundary.both(DEEP, y -> y.draft(RIGHT, 14)), HotGames::make);
    }

    private void noGameTwice() {
        b.sentence(0, "making a number that is a game already, or a composed game with the same sets of options as"
            + " another one, gives the number of that game");
        HotGames x = new HotGames();
        b.is("0 by number", x.number(0), 0);
        b.is("0 by its text", Check.read(x, "-0/4"), 0);
        b.is("{0|0}", Check.read(x, "{0,0|0}"), 3);
        b.is("{|} is another game than 0", Check.read(x, "{|}"), 10);
        b.is("{0|} is another game than 1", Check.read(x, "{0|}"), 11);
        b.is("{|0} is another game than {0|}", Check.read(x, "{|0}"), 12);
        b.is("{|0} again", Check.read(x, "{|0}"), 12);
        b.is("games", x.games(), 13);
        x.undo();
        x.undo();
        x.number(5);
        b.is("a game that is undone is made anew", Check.read(x, "{|0}"), 13);
        b.is("another number of 13 games", x.number(5), 12);
    }

    // ---- promises

    private void atFirst() {
        b.sentence(0, "The text, the draft, the written text and the log of the latest play are empty, and nothing is"
            + " saved.");
        b.is("the text", new HotGames().clearText(), 0);
        b.is("the fault", new HotGames().fault(), 0);
        b.is("the draft", new HotGames().clearDraft(), 0);
        b.is("the written text", new HotGames().written(0), NONE);
        b.is("the log", new HotGames().played(0), NONE);
        b.refused("undo", Check.STATE, HotGames::undo);
        b.refused("read", Check.ARGUMENT, HotGames::read);
        b.is("the game of an empty draft", new HotGames().make(), 10);
    }

    private void games() {
        b.sentence(2, "Returns the number of games.");
        b.is("at first", new HotGames().games(), 10);
        b.is("at most", Boundary.made(Boundary.full(40)).games(), 40);
    }

    private void numberOutOfRange() {
        b.sentence(3, "Throws `IllegalArgumentException` if eighths is not from -64 to 64");
        b.is("-64", new HotGames().number(-64), 10);
        b.is("64", new HotGames().number(64), 10);
        for (int wrong : new int[] {-65, 65, -66, 128, -128, 256, 264, 1 << 25, 65536, MIN, MIN + 1, MAX, MAX - 63}) {
            b.refused("number(" + wrong + ")", Check.ARGUMENT, y -> y.number(wrong));
            b.refused("number(" + wrong + ") where there are 40", Check.ARGUMENT, Boundary.full(40),
                y -> y.number(wrong));
        }
    }

    private void numberWithoutRoom() {
        b.sentence(3, "Throws `IllegalStateException` if it has to be made, but there are 40 games");
        b.is("the 40th game", Boundary.made(Boundary.full(39)).number(-64), 39);
        b.refused("the 41st game", Check.STATE, Boundary.full(40), y -> y.number(-64));
        HotGames x = Boundary.made(Boundary.full(40));
        b.is("a number that is the first game", x.number(0), 0);
        b.is("a number that is the last game", x.number(35), 39);
        b.is("both are saved", x.undo(), 5);
        b.is("no game has gone by undo", x.games(), 40);
    }

    private void draftOfNoGame() {
        b.sentence(4, "Throws `IndexOutOfBoundsException` if there is no such game");
        b.gameRefused("draft", Boundary.NEW, (x, game) -> x.draft(RIGHT, game));
        b.vanishedGameRefused("draft", (x, game) -> x.draft(LEFT, game));
        b.gameRefused("draft on no side", Boundary.NEW, (x, game) -> x.draft(game > 9 || game < 0 ? 2 : 1, game));
        b.refused("no game for a full draft", Check.INDEX, FULL_DRAFT, x -> x.draft(LEFT, 10));
        b.refused("no game and no side for a full draft", Check.INDEX, FULL_DRAFT, x -> x.draft(2, -1));
    }

    private void draftOfNoSide() {
        b.sentence(4, "Throws `IllegalArgumentException` if side is neither 0 nor 1");
        b.sideRefused("draft", Boundary.NEW, (x, side) -> x.draft(side, 9));
        b.refused("no side for a full draft", Check.ARGUMENT, FULL_DRAFT, x -> x.draft(2, 8));
        b.refused("no side for a full draft", Check.ARGUMENT, FULL_DRAFT, x -> x.draft(-1, 9));
    }

    private void draftOfFive() {
        b.sentence(4, "Throws `IllegalStateException` if the draft has 4 other options on this side");
        HotGames x = new HotGames();
        for (int k = 1; k <= 4; k++) {
            b.is("left option " + k, x.draft(LEFT, 10 - 2 * k), k);
            b.is("right option " + k, x.draft(RIGHT, 2 * k - 1), k);
        }
        for (int k = 0; k < 4; k++) {
            b.is("one of the four, left", x.draft(LEFT, 2 * k + 2), 4);
            b.is("one of the four, right", x.draft(RIGHT, 2 * k + 1), 4);
        }
        b.refused("a fifth left one", Check.STATE, FULL_DRAFT, y -> y.draft(LEFT, 9));
        b.refused("a fifth left one that is right", Check.STATE, FULL_DRAFT, y -> y.draft(LEFT, 1));
        b.refused("a fifth right one", Check.STATE, FULL_DRAFT, y -> y.draft(RIGHT, 8));
        b.is("a first right one", Boundary.made(y -> fourLeft(y)).draft(RIGHT, 9), 1);
        b.is("one of the four where three are others", Boundary.made(y -> fourLeft(y)).draft(LEFT, 3), 4);
        Boundary.Setup last = Boundary.both(Boundary.full(40), y -> fourLeft(y));
        b.refused("a fifth one, the last game", Check.STATE, last, y -> y.draft(LEFT, 39));
    }

    private static void fourLeft(HotGames x) {
        for (int k = 0; k < 4; k++) {
            x.draft(LEFT, k);
        }
    }

    private void clearDraft() {
        b.sentence(5, "Returns how many left and right options it had together.");
        HotGames x = new HotGames();
        b.is("none", x.clearDraft(), 0);
        x.draft(RIGHT, 0);
        b.is("one", x.clearDraft(), 1);
        FULL_DRAFT.on(x);
        b.is("eight", x.clearDraft(), 8);
        b.is("none again", x.clearDraft(), 0);
        x.draft(LEFT, 3);
        x.draft(RIGHT, 3);
        b.is("the same game on both sides", x.clearDraft(), 2);
    }

    private void makeEmptiesTheDraft() {
        b.sentence(6, "Makes the composed game whose options are those of the draft; the draft is empty then."
            + " Undoable.");
        HotGames x = new HotGames();
        FULL_DRAFT.on(x);
        b.is("a new game", x.make(), 10);
        b.is("the draft behind it", x.clearDraft(), 0);
        FULL_DRAFT.on(x);
        b.is("the same game", x.make(), 10);
        b.is("the draft behind it", x.clearDraft(), 0);
        b.is("both are saved", x.undo(), 1);
        b.is("the first one was there before", x.games(), 11);
        b.is("undo does not fill the draft", x.clearDraft(), 0);
    }

    private void makeRefused() {
        b.sentence(6,
            "Throws `IllegalStateException` if its depth would be greater than 6, or if it has to be made, but"
            + " there are 40 games");
        HotGames deep = Boundary.made(DEEP);
        deep.draft(LEFT, 13);
        deep.draft(RIGHT, 13);
        b.is("depth 6", deep.depth(deep.make()), 6);
        b.refused("depth 7 by a left option", Check.STATE, Boundary.both(DEEP, y -> y.draft(LEFT, 14)),
            HotGames::make);
        Boundary.Setup mixed = Boundary.both(DEEP, y -> {
            FULL_DRAFT.on(y);
            y.clearDraft();
            y.draft(LEFT, 0);
            y.draft(RIGHT, 3);
            y.draft(RIGHT, 14);
        });
        b.refused("depth 7 by one of the right options", Check.STATE, mixed, HotGames::make);
        HotGames x = Boundary.made(Boundary.full(39));
        x.draft(LEFT, 38);
        b.is("the 40th game", x.make(), 39);
        Boundary.Setup drafted = Boundary.both(Boundary.full(40), y -> y.draft(LEFT, 39));
        b.refused("the 41st game", Check.STATE, drafted, HotGames::make);
        b.refused("the 41st game without options", Check.STATE, Boundary.full(40), HotGames::make);
        HotGames old = Boundary.made(Boundary.full(40));
        old.draft(LEFT, 6);
        old.draft(RIGHT, 0);
        b.is("a game that is there already", old.make(), 7);
        Boundary.Setup all = Boundary.both(DEEP, Boundary.both(Boundary.full(40), y -> y.draft(LEFT, 14)));
        b.refused("depth 7 as the 41st game", Check.STATE, all, HotGames::make);
    }

    private void negativeOfNoGame() {
        b.sentence(7, "Throws `IndexOutOfBoundsException` if there is no such game");
        b.gameRefused("negative", Boundary.NEW, (x, game) -> x.negative(game));
        b.vanishedGameRefused("negative",
            (x, game) -> x.games() == 40 && game == 39 ? x.negative(0) : x.negative(game));
        b.refused("no game where there are 40", Check.INDEX, Boundary.full(40), x -> x.negative(40));
    }

    private void negativeWithoutRoom() {
        b.sentence(7, "Throws `IllegalStateException` if more than 40 games would be needed");
        HotGames x = Boundary.made(Boundary.full(37));
        b.is("three games where there is room for three", x.negative(8), 39);
        for (int games = 38; games <= 40; games++) {
            b.refused("three games where there are " + games, Check.STATE, Boundary.full(games), y -> y.negative(8));
        }
        b.is("one game where there is room for one", Boundary.made(Boundary.full(39)).negative(6), 39);
        b.refused("a number where there are 40", Check.STATE, Boundary.full(40), y -> y.negative(39));
        HotGames full = Boundary.made(Boundary.full(40));
        for (int game : new int[] {0, 3, 5}) {
            b.is("a negative that is there already", full.negative(game), game);
        }
        b.is("another one", full.negative(1) * 10 + full.negative(2), 21);
        Boundary.Setup parts = Boundary.both(y -> y.negative(8), Boundary.full(40));
        b.is("one with all its parts there", Boundary.made(parts).negative(8), 12);
    }

    private void negativesOfParts() {
        b.sentence(7,
            "First the negatives of all other games of which it is composed (its options, their options and so"
            + " on) are made, in ascending order of these games.");
        HotGames x = Boundary.made(DEEP);
        b.is("the parts of depth 6 and itself", x.negative(14), 18);
        b.is("the negative of down is there already", x.negative(10), 4);
        for (int g = 11; g <= 14; g++) {
            b.is("the negative of game " + g, x.negative(g), g + 4);
        }
        b.is("games", x.games(), 19);
        HotGames empty = new HotGames();
        b.is("{|} has no parts", empty.negative(empty.make()), 10);
        x = new HotGames();
        x.number(24);
        int game = Check.read(x, "{{5|}|3}");
        b.is("a game with the parts 3, 5 and {5|}", game, 13);
        b.is("its negative", x.negative(game), 17);
        b.is("3 comes first", Check.write(x, 14), "-3");
        b.is("then 5", Check.write(x, 15), "-5");
        b.is("then {5|}", Check.write(x, 16), "{|-5}");
        b.is("then the whole", Check.write(x, 17), "{-3|{|-5}}");
    }

    private void options() {
        b.sentence(8, "Throws `IndexOutOfBoundsException` if there is no such game");
        b.gameRefused("options", Boundary.NEW, (x, game) -> x.options(game, LEFT));
        b.vanishedGameRefused("options", (x, game) -> x.options(game, RIGHT));
        b.refused("no game and no side", Check.INDEX, x -> x.options(10, 2));
        b.sentence(8, "Throws `IllegalArgumentException` if side is neither 0 nor 1");
        b.sideRefused("options", Boundary.NEW, (x, side) -> x.options(9, side));
        b.sideRefused("options of a number", Boundary.NEW, (x, side) -> x.options(0, side));
        b.sentence(8, "Returns how many there are; 0 for a number.");
        HotGames x = new HotGames();
        b.is("0", x.options(0, LEFT) + x.options(0, RIGHT), 0);
        b.is("2, which has a left option for comparisons", x.options(6, LEFT), 0);
        b.is("-1, which has a right option for comparisons", x.options(2, RIGHT), 0);
        b.is("1/2, which has both for comparisons", x.options(x.number(4), LEFT) + x.options(10, RIGHT), 0);
    }

    private void option() {
        b.sentence(9, "Throws `IndexOutOfBoundsException` if there is no such game");
        b.gameRefused("option", Boundary.NEW, (x, game) -> x.option(game, LEFT, 0));
        b.vanishedGameRefused("option", (x, game) -> x.option(game, RIGHT, 0));
        b.refused("no game, no side and no option", Check.INDEX, x -> x.option(10, 2, 9));
        b.sentence(9, "Throws `IllegalArgumentException` if side is neither 0 nor 1");
        b.sideRefused("option", Boundary.NEW, (x, side) -> x.option(9, side, 0));
        b.sideRefused("no option", Boundary.NEW, (x, side) -> x.option(9, side, 4));
        b.sentence(9, "Returns the number of its game; NONE if there is no such option.");
        HotGames x = new HotGames();
        FULL_DRAFT.on(x);
        int game = x.make();
        b.is("the last of four left ones", x.option(game, LEFT, 3), 6);
        b.is("the last of four right ones", x.option(game, RIGHT, 3), 7);
        int empty = x.make();
        for (int i : new int[] {-1, 4, 5, 8, -4, 256, 65536, MIN, MAX}) {
            b.is("option " + i + " of four left ones", x.option(game, LEFT, i), NONE);
            b.is("option " + i + " of four right ones", x.option(game, RIGHT, i), NONE);
            b.is("option " + i + " of none", x.option(empty, RIGHT, i), NONE);
            b.is("option " + i + " of a number", x.option(1, LEFT, i), NONE);
        }
        b.is("option 0 of none", x.option(empty, LEFT, 0), NONE);
        b.is("option 0 of a number", x.option(6, LEFT, 0), NONE);
        b.is("option 1 of one", x.option(9, RIGHT, 1), NONE);
    }

    private void depthOfNoGame() {
        b.sentence(10, "Throws `IndexOutOfBoundsException` if there is no such game");
        b.gameRefused("depth", Boundary.NEW, (x, game) -> x.depth(game));
        b.vanishedGameRefused("depth", (x, game) -> x.depth(game));
    }
}

/** The bounds of the table: its terms, and promises 20 to 29. */
final class TableBoundaries {
    private static final int NONE = Boundary.NONE;
    private static final int LEFT = Boundary.LEFT;
    private static final int RIGHT = Boundary.RIGHT;
    private static final int MIN = Boundary.MIN;
    private static final int MAX = Boundary.MAX;
    private static final int[] NO_STRATEGIES = {-1, 4, 5, 256, 65536, MIN, MIN + 1, MAX};
    private static final Boundary.Setup EMPTY = x -> Check.lay(x);
    /** Five, eight, star, up. */
    private static final Boundary.Setup FOUR = x -> {
        x.add(3);
        x.add(4);
    };
    /** The positions of the components are 10, 10, 10 and 4. */
    private static final Boundary.Setup SIZE_4000 = x -> {
        String ten = "{1,2,3,4|-1,-2,-3,{-4|-4}}";
        Check.lay(x, ten, ten, ten, "{1,2|-1}");
        Check.type(x, "{0|0}");
    };
    /** The positions are 2, 3, 23 and 29; there is no size 4001, for that is a prime above 40. */
    private static final Boundary.Setup SIZE_4002 = x -> {
        int nine = Check.read(x, "{1,2,3,4|-1,-2,-3,-4}");
        int seventeen = nest(x, nine, "5,6,7", "-5,-6,-7,-8");
        int twentyThree = nest(x, seventeen, "8", "-1/2,-3/2,-5/2,-7/2");
        int twentyNine = nest(x, twentyThree, "1/2", "-9/2,-11/2,-13/2,-15/2");
        Check.lay(x);
        x.add(3);
        x.add(5);
        x.add(twentyThree);
        x.add(twentyNine);
    };

    private final Boundary b;

    TableBoundaries(Boundary b) {
        this.b = b;
    }

    /** Makes the game with the left options of a game and these numbers, and these numbers as right ones. */
    private static int nest(HotGames x, int game, String left, String right) {
        x.draft(LEFT, game);
        for (String number : left.split(",")) {
            x.draft(LEFT, Check.read(x, number));
        }
        for (String number : right.split(",")) {
            x.draft(RIGHT, Check.read(x, number));
        }
        return x.make();
    }

    void run() {
        noneToFourComponents();
        coldComponents();
        positions();
        atMost4000();
        greatestScores();
        strategyZero();
        hotstrat();
        greedy();
        optimal();
        addRefused();
        removeRefused();
        components();
        componentRefused();
        moveOfNoComponent();
        moveOfNoOption();
        moveOfColdComponent();
        sizeOfLargeTable();
        bestRefused();
        adviceRefused();
        adviceOfColdComponents();
        playRefused();
        playOfLargeTable();
        strategiesOfBoth();
        playLeavesTheTable();
        played();
    }

    // ---- terms

    private void noneToFourComponents() {
        b.sentence(0,
            "The table has 0 to 4 components, numbered from 0, each of which is a game (the same game can occur"
            + " several times).");
        HotGames x = Boundary.made(EMPTY);
        b.is("no component", x.components(), 0);
        for (int c = 0; c < 4; c++) {
            b.is("the same game again", x.add(8), c + 1);
            b.is("component " + c, x.component(c), 8);
        }
        b.refused("a fifth one", Check.STATE, FOUR, y -> y.add(5));
        b.is("a move in one of them", x.move(2, RIGHT, 0), 2);
        b.is("leaves the others", x.component(0) + x.component(1) + x.component(3), 24);
    }

    private void coldComponents() {
        b.sentence(0, "When all components are cold, the play is over; its score is the sum of their values.");
        HotGames x = Boundary.made(EMPTY);
        b.is("no components", x.best(LEFT) + x.best(RIGHT) + x.play(LEFT, 0, 0) + x.play(RIGHT, 3, 3), 0);
        // both players would move in {0|1} and {-1|} if cold games could be moved
        Check.lay(x, "{0|1}", "{-1|}", "8", "-1/8");
        int due = 512 + 0 + 8192 - 128;
        for (int player = LEFT; player <= RIGHT; player++) {
            b.is("best", x.best(player), due);
            for (int strategy = 0; strategy < 4; strategy++) {
                b.is("play", x.play(player, strategy, 3 - strategy), due);
                b.is("its log", x.played(0), NONE);
            }
        }
        Check.lay(x, "{0|1}", "{{0|1}|{1|2}}", "{1|1}");
        b.is("a move into cold games ends the play", x.play(LEFT, 0, 0), 512 + 1024 + 1024);
        b.is("its only move", Check.playedOf(x), "200");
    }

    private void positions() {
        b.sentence(0,
            "The positions of a component are its game and, if that is hot, the positions of all its options."
            + " The size of the table is the product, over all components, of the numbers of different positions (1"
            + " without components).");
        b.is("no component", Boundary.made(EMPTY).size(), 1);
        HotGames x = Boundary.made(EMPTY);
        x.add(0);
        b.is("a number", x.size(), 1);
        Check.lay(x, "{{2|0}|{0|-2}}");
        b.is("a cold game with hot options", x.size(), 1);
        Check.lay(x, "star");
        b.is("an option on both sides counts once", x.size(), 2);
        Check.lay(x, "{0,star|0}");
        b.is("an option of an option counts once", x.size(), 3);
        Check.lay(x, "{3|{0|{1|-1}}}");
        b.is("a cold option counts without its options", x.size(), 3);
        Check.lay(x, "star", "star", "star", "star");
        b.is("the same game four times", x.size(), 16);
    }

    private void atMost4000() {
        b.sentence(0, "Optimal scores and moves can only be asked for if the size is at most 4000.");
        HotGames x = Boundary.made(SIZE_4000);
        b.is("the last size that is allowed", x.size(), 4000);
        for (int player = LEFT; player <= RIGHT; player++) {
            // Left takes 4 of the first, Right -4 of the second, and so on; in the last the choice is 2 or -1
            int due = player == LEFT ? 1024 * (4 - 4 + 4 - 1) : 1024 * (-4 + 4 - 4 + 2);
            b.is("best", x.best(player), due);
            b.is("play", x.play(player, 3, 3), due);
            b.is("advice", x.advice(player, 3), 3);
        }
        HotGames y = Boundary.made(SIZE_4002);
        b.is("the first size that is not", y.size(), 4002);
        b.refused("best", Check.STATE, SIZE_4002, z -> z.best(LEFT));
        b.refused("advice", Check.STATE, SIZE_4002, z -> z.advice(RIGHT, 3));
        b.refused("play", Check.STATE, SIZE_4002, z -> z.play(LEFT, 3, 3));
        y.remove(0);
        b.is("a smaller table", y.size(), 2001);
        b.is("can be asked for", y.play(LEFT, 3, 3), y.best(LEFT));
    }

    private void greatestScores() {
        b.sentence(0, "Left wants a great score, Right a small one.");
        HotGames x = new HotGames();
        String high = "{{{{{{8|}|}|}|}|}|}";
        String low = "{|{|{|{|{|{|-8}}}}}}";
        Check.lay(x, high, high, high, high);
        b.is("four games of 14", x.best(LEFT), 4 * 14 * 1024);
        b.is("played", x.play(RIGHT, 0, 0), 4 * 14 * 1024);
        Check.lay(x, low, low, low, low);
        b.is("four games of -14", x.best(RIGHT), -4 * 14 * 1024);
        b.is("played", x.play(LEFT, 3, 3), -4 * 14 * 1024);
        x = new HotGames();
        Check.lay(x, "{{{{{{8|}|}|}|}|}|{|{|{|{|{|-8}}}}}}");
        b.is("Left takes 13", x.best(LEFT), 13 * 1024);
        b.is("Right takes -13", x.best(RIGHT), -13 * 1024);
    }

    private void strategyZero() {
        b.sentence(0, "0 The lowest hot component, and the option with the lowest number.");
        HotGames x = new HotGames();
        Check.lay(x, "0", "{0|1}", "{|}", "{-1,8|1/2,-8}");
        b.is("the last component, Left", x.advice(LEFT, 0), 300);
        b.is("the last component, Right", x.advice(RIGHT, 0), 300);
        Check.lay(x, "star", "{8|-8}");
        b.is("not the hottest", x.advice(LEFT, 0), 0);
    }

    private void hotstrat() {
        b.sentence(0,
            "1 (hotstrat) The hot component with the greatest temperature t, of several the lowest one; of its"
            + " options for Left the one with the greatest right wall at this t, for Right the one with the least left"
            + " wall at this t, of several the one with the lowest number.");
        HotGames x = new HotGames();
        Check.lay(x, "0", "star", "up", "0");
        b.is("the lowest of temperature 0", x.advice(LEFT, 1) + x.advice(RIGHT, 1), 200);
        Check.lay(x, "{1|-1}", "{8|-8}", "{8|-8}", "star");
        b.is("the lowest of the greatest temperature", x.advice(LEFT, 1), 100);
        Check.lay(x, "{1|-1}", "{9/8|-1}", "{9/8|-1}", "{5/4|-1}");
        b.is("the greatest by 1/16", x.advice(RIGHT, 1), 300);
        x = new HotGames();
        // the games 2 and {1|} are worth the same, and 2 has the lower number
        Check.lay(x, "{1,{1|},2|-1,{|-1},-2}");
        b.is("the walls of the left options, of several the lowest", x.advice(LEFT, 1), 1);
        b.is("its game", x.option(x.component(0), LEFT, 1), 6);
        b.is("the walls of the right options, of several the lowest", x.advice(RIGHT, 1), 1);
        x = new HotGames();
        // at the temperature 3 the right wall of {8|0} is 3, at 0 it would be 0
        Check.lay(x, "{2,{8|0}|-3}");
        b.is("the temperature", x.temperature(x.component(0)), 3072);
        b.is("the right wall of {8|0} at 0", x.wall(x.option(x.component(0), LEFT, 1), RIGHT, 0), 0);
        b.is("the wall at this t", x.advice(LEFT, 1), 1);
        Check.lay(x, "{3|-2,{0|-8}}");
        b.is("the wall at this t, Right", x.advice(RIGHT, 1), 1);
        // at the temperature 2 the right wall of {4|0} is as great as 2
        Check.lay(x, "{2,{4|0}|-2}");
        b.is("equal walls at this t", x.temperature(x.component(0)), 2048);
        b.is("equal walls", x.advice(LEFT, 1), 0);
    }

    private void greedy() {
        b.sentence(0,
            "2 (greedy) Of all moves the one that changes the sum of the means most in favour of the player (for"
            + " Left the new mean minus the old one, for Right the old one minus the new one), of several the one with"
            + " the lowest component, of these the one with the lowest number of the option.");
        HotGames x = new HotGames();
        Check.lay(x, "0", "{2,0|-2,0}", "{3,2|-1}", "{2|0}");
        // the gains of Left are 0 - 0 and 2 - 0 in component 1, 2 and 1 in component 2, 1 in component 3
        b.is("gains of Left", x.advice(LEFT, 2), 101);
        b.is("gains of Right", x.advice(RIGHT, 2), 101);
        Check.lay(x, "star", "up");
        b.is("gains of nothing", x.advice(LEFT, 2) + x.advice(RIGHT, 2), 0);
        // the right walls of both options are -4 at the temperature 0
        Check.lay(x, "0", "{{3|-4},{4|-4}|-4}");
        b.is("the temperature", x.temperature(x.component(1)), 0);
        b.is("the means -1/2 and 0", x.advice(LEFT, 2), 101);
        x = new HotGames();
        Check.lay(x, "{1,{1|},2|-1}", "{2|-2}");
        b.is("of equal options the lowest", x.advice(LEFT, 2), 100);
        Check.lay(x, "{1,{1|},2|-1}", "star");
        b.is("of equal options in one component the lowest", x.advice(LEFT, 2), 1);
    }

    private void optimal() {
        b.sentence(0, "3 The optimal move with the lowest component, of these the one with the lowest number of the"
            + " option.");
        HotGames x = new HotGames();
        Check.lay(x, "0", "star", "up", "star");
        b.is("all moves are optimal", x.advice(LEFT, 3) + x.advice(RIGHT, 3), 200);
        // whoever takes 1 at first loses two points by it; 3 and 2 are as good at first
        Check.lay(x, "{1|-1}", "{2|-2}", "{3|-3}", "{3|-3}");
        b.is("the lowest optimal component, Left", x.advice(LEFT, 3), 100);
        b.is("the lowest optimal component, Right", x.advice(RIGHT, 3), 100);
        x = new HotGames();
        Check.lay(x, "{1,{1|},2|-1,{|-1},-2}");
        b.is("the lowest optimal option, Left", x.advice(LEFT, 3), 1);
        b.is("the lowest optimal option, Right", x.advice(RIGHT, 3), 1);
        Check.lay(x, "0", "0", "0", "{1,3,5,8|0}");
        b.is("the last option of the last component", x.advice(LEFT, 3), 303);
    }

    // ---- promises

    private void addRefused() {
        b.sentence(20, "Throws `IndexOutOfBoundsException` if there is no such game");
        b.gameRefused("add", Boundary.NEW, (x, game) -> x.add(game));
        b.vanishedGameRefused("add", (x, game) -> x.add(game));
        b.refused("no game for a full table", Check.INDEX, FOUR, x -> x.add(10));
        b.sentence(20, "Throws `IllegalStateException` if there are 4 components");
        b.is("a first component", Boundary.made(EMPTY).add(9), 1);
        b.is("a fourth component", Boundary.made(x -> x.add(0)).add(9), 4);
        b.refused("a fifth component", Check.STATE, FOUR, x -> x.add(0));
        b.refused("a fifth component, the last game", Check.STATE, FOUR, x -> x.add(9));
    }

    private void removeRefused() {
        b.sentence(21, "Throws `IndexOutOfBoundsException` if there is no such component");
        b.componentRefused("remove", Boundary.NEW, (x, component) -> x.remove(component));
        b.componentRefused("remove of four", FOUR, (x, component) -> x.remove(component));
        b.componentRefused("remove of none", EMPTY, (x, component) -> x.remove(component));
        b.sentence(21, "Removes a component; the numbers of those behind it decrease by 1. Undoable.");
        int[] games = {5, 8, 3, 4};
        for (int gone = 0; gone < 4; gone++) {
            HotGames x = Boundary.made(FOUR);
            b.is("remove(" + gone + ")", x.remove(gone), games[gone]);
            b.is("components", x.components(), 3);
            for (int c = 0; c < 3; c++) {
                b.is("component " + c + " without " + gone, x.component(c), games[c < gone ? c : c + 1]);
            }
            b.is("undo", x.undo(), 2);
            b.is("the component is back", x.component(gone), games[gone]);
            b.is("the last one too", x.component(3), 4);
        }
    }

    private void components() {
        b.sentence(22, "Returns the number of components.");
        b.is("none", Boundary.made(EMPTY).components(), 0);
        b.is("two", new HotGames().components(), 2);
        b.is("four", Boundary.made(FOUR).components(), 4);
    }

    private void componentRefused() {
        b.sentence(23, "Throws `IndexOutOfBoundsException` if there is no such component");
        b.componentRefused("component", Boundary.NEW, (x, component) -> x.component(component));
        b.componentRefused("component of four", FOUR, (x, component) -> x.component(component));
        b.componentRefused("component of none", EMPTY, (x, component) -> x.component(component));
        b.refused("a removed one", Check.INDEX, x -> x.remove(1), x -> x.component(1));
    }

    private void moveOfNoComponent() {
        b.sentence(24, "Throws `IndexOutOfBoundsException` if there is no such component");
        b.componentRefused("move", Boundary.NEW, (x, component) -> x.move(component, LEFT, 0));
        b.componentRefused("move of four", FOUR, (x, component) -> x.move(component, RIGHT, 0));
        b.componentRefused("move of none", EMPTY, (x, component) -> x.move(component, RIGHT, 0));
        b.refused("no component, no side and no option", Check.INDEX, x -> x.move(2, 2, -1));
        b.refused("no component and no option", Check.INDEX, x -> x.move(-1, LEFT, 4));
    }

    private void moveOfNoOption() {
        b.sentence(24, "Throws `IllegalArgumentException` if side is neither 0 nor 1, or there is no such option");
        Boundary.Setup four = x -> Check.lay(x, "{1,2,3,4|-1,-2,-3,-4}", "{0|1}", "6");
        b.sideRefused("move", four, (x, side) -> x.move(0, side, 3));
        for (int side = LEFT; side <= RIGHT; side++) {
            int at = side;
            for (int i : new int[] {-1, 4, 8, -4, 256, 65536, MIN, MAX}) {
                b.refused("option " + i + " of four", Check.ARGUMENT, four, x -> x.move(0, at, i));
                b.refused("option " + i + " of a cold game", Check.ARGUMENT, four, x -> x.move(1, at, i));
            }
            b.refused("option 1 of a cold game", Check.ARGUMENT, four, x -> x.move(1, at, 1));
            b.refused("option 0 of a number", Check.ARGUMENT, four, x -> x.move(2, at, 0));
        }
        b.refused("a cold game on no side", Check.ARGUMENT, four, x -> x.move(1, 2, 0));
        b.refused("neither side nor option", Check.ARGUMENT, four, x -> x.move(0, -1, 4));
        HotGames x = Boundary.made(four);
        int game = x.component(0);
        b.is("the last option", x.move(0, RIGHT, 3), x.option(game, RIGHT, 3));
    }

    private void moveOfColdComponent() {
        b.sentence(24, "Throws `IllegalStateException` if the component is cold");
        Boundary.Setup cold = x -> Check.lay(x, "{0|1}", "{star|star}", "{{2|0}|{0|-2}}", "star");
        for (int c = 0; c < 3; c++) {
            for (int side = LEFT; side <= RIGHT; side++) {
                int component = c;
                int at = side;
                b.refused("component " + c, Check.STATE, cold, x -> x.move(component, at, 0));
            }
        }
        b.is("a hot component of temperature 0", Boundary.made(cold).move(3, LEFT, 0), 0);
        HotGames x = new HotGames();
        b.is("a move into a number", x.move(0, RIGHT, 0), 2);
        b.is("undo", x.undo(), 0);
        b.is("the component is hot again", x.move(0, LEFT, 0), 1);
    }

    private void sizeOfLargeTable() {
        b.sentence(25, "Returns the size of the table.");
        HotGames x = Boundary.made(SIZE_4002);
        int large = x.component(3);
        Check.lay(x);
        for (int c = 0; c < 4; c++) {
            x.add(large);
        }
        b.is("four components of 29 positions", x.size(), 29 * 29 * 29 * 29);
        b.refused("its optimal score", Check.STATE, Boundary.both(SIZE_4002, y -> {
            y.remove(0);
            y.add(large);
        }), y -> y.best(LEFT));
    }

    private void bestRefused() {
        b.sentence(26, "Throws `IllegalArgumentException` if first is neither 0 nor 1");
        b.sideRefused("best", Boundary.NEW, (x, first) -> x.best(first));
        b.sideRefused("best of nothing", EMPTY, (x, first) -> x.best(first));
        b.refused("no player for a large table", Check.ARGUMENT, SIZE_4002, x -> x.best(2));
        b.sentence(26, "Throws `IllegalStateException` if the size of the table is greater than 4000");
        b.is("size 4000", Boundary.throwsNothing(SIZE_4000, x -> x.best(LEFT)), true);
        b.refused("size 4002, Left", Check.STATE, SIZE_4002, x -> x.best(LEFT));
        b.refused("size 4002, Right", Check.STATE, SIZE_4002, x -> x.best(RIGHT));
    }

    private void adviceRefused() {
        b.sentence(27, "Throws `IllegalArgumentException` if player is neither 0 nor 1, or strategy is not 0 to 3");
        for (int strategy = 0; strategy < 4; strategy++) {
            int good = strategy;
            b.sideRefused("advice of strategy " + good, Boundary.NEW, (x, player) -> x.advice(player, good));
            b.sideRefused("advice for nothing", EMPTY, (x, player) -> x.advice(player, good));
        }
        for (int strategy : NO_STRATEGIES) {
            b.refused("strategy " + strategy, Check.ARGUMENT, x -> x.advice(LEFT, strategy));
            b.refused("strategy " + strategy + " for nothing", Check.ARGUMENT, EMPTY, x -> x.advice(RIGHT, strategy));
        }
        b.refused("no player for a large table", Check.ARGUMENT, SIZE_4002, x -> x.advice(-1, 3));
        b.sentence(27,
            "Throws `IllegalStateException` if strategy is 3 and the size of the table is greater than 4000");
        for (int player = LEFT; player <= RIGHT; player++) {
            int good = player;
            b.refused("size 4002", Check.STATE, SIZE_4002, x -> x.advice(good, 3));
            b.is("size 4000", Boundary.throwsNothing(SIZE_4000, x -> x.advice(good, 3)), true);
            for (int strategy = 0; strategy < 3; strategy++) {
                int other = strategy;
                b.is("size 4002 and another strategy", Boundary.throwsNothing(SIZE_4002, x -> x.advice(good, other)),
                    true);
            }
        }
    }

    private void adviceOfColdComponents() {
        b.sentence(27, "Returns 100 * component + number of the option; NONE if all components are cold.");
        HotGames x = new HotGames();
        Check.lay(x, "0", "{0|1}", "{star|star}", "-8");
        for (int strategy = 0; strategy < 4; strategy++) {
            b.is("cold components, Left", x.advice(LEFT, strategy), NONE);
            b.is("cold components, Right", x.advice(RIGHT, strategy), NONE);
            b.is("no components", Boundary.made(EMPTY).advice(RIGHT, strategy), NONE);
        }
        Check.lay(x, "0", "{0|1}", "{star|star}", "star");
        for (int strategy = 0; strategy < 4; strategy++) {
            b.is("one hot component", x.advice(RIGHT, strategy), 300);
        }
        x = new HotGames();
        Check.lay(x, "0", "0", "0", "{1,3,5,8|-1,-3,-5,-8}");
        b.is("the greatest answer, hotstrat", x.advice(LEFT, 1), 303);
        b.is("the greatest answer, greedy", x.advice(RIGHT, 2), 303);
    }

    private void playRefused() {
        b.sentence(28, "Throws `IllegalArgumentException` if an argument is out of range");
        Boundary.Setup logged = x -> x.play(RIGHT, 0, 0);
        b.sideRefused("play", logged, (x, first) -> x.play(first, 1, 2));
        for (int strategy : NO_STRATEGIES) {
            b.refused("left " + strategy, Check.ARGUMENT, logged, x -> x.play(LEFT, strategy, 0));
            b.refused("right " + strategy, Check.ARGUMENT, logged, x -> x.play(RIGHT, 0, strategy));
            b.refused("left " + strategy + " for nothing", Check.ARGUMENT, EMPTY, x -> x.play(LEFT, strategy, 0));
            b.refused("right " + strategy + " where nobody moves", Check.ARGUMENT, EMPTY,
                x -> x.play(LEFT, 0, strategy));
        }
        for (int k = 0; k < 16; k++) {
            int left = k / 4;
            int right = k % 4;
            b.is("strategies " + left + " and " + right,
                Boundary.throwsNothing(logged, x -> x.play(LEFT, left, right)), true);
        }
        b.refused("no player and a large table", Check.ARGUMENT, SIZE_4002, x -> x.play(2, 3, 3));
        b.refused("no strategy of Left and a large table", Check.ARGUMENT, SIZE_4002, x -> x.play(LEFT, 4, 3));
        b.refused("no strategy of Right and a large table", Check.ARGUMENT, SIZE_4002, x -> x.play(LEFT, 3, -1));
    }

    private void playOfLargeTable() {
        b.sentence(28,
            "Throws `IllegalStateException` if one of the strategies is 3 and the size of the table is greater"
            + " than 4000");
        Boundary.Setup logged = Boundary.both(x -> x.play(LEFT, 2, 1), SIZE_4002);
        for (int first = LEFT; first <= RIGHT; first++) {
            int player = first;
            b.refused("both are 3", Check.STATE, logged, x -> x.play(player, 3, 3));
            for (int strategy = 0; strategy < 3; strategy++) {
                int other = strategy;
                b.refused("Left has 3", Check.STATE, logged, x -> x.play(player, 3, other));
                b.refused("Right has 3", Check.STATE, logged, x -> x.play(player, other, 3));
                b.is("nobody has 3", Boundary.throwsNothing(SIZE_4002, x -> x.play(player, other, 2 - other)), true);
            }
            b.is("size 4000", Boundary.throwsNothing(SIZE_4000, x -> x.play(player, 3, 3)), true);
        }
    }

    private void strategiesOfBoth() {
        b.sentence(28, "the strategy of Left, 0 to 3");
        HotGames x = new HotGames();
        Check.lay(x, "{1|-1}", "{2|-2}", "{5|-5}");
        b.is("Left takes 5, Right -1, Left 2", x.play(LEFT, 1, 0), 6 * 1024);
        b.is("its moves", Check.playedOf(x), "200 0 100");
        b.sentence(28, "the strategy of Right, 0 to 3");
        b.is("Left takes 1, Right -5, Left 2", x.play(LEFT, 0, 1), -2 * 1024);
        b.is("its moves", Check.playedOf(x), "0 200 100");
        b.sentence(28, "who moves first: 0 Left, 1 Right");
        b.is("Right takes -5, Left 1, Right -2", x.play(RIGHT, 0, 3), -6 * 1024);
        b.is("its moves", Check.playedOf(x), "200 0 100");
    }

    private void playLeavesTheTable() {
        b.sentence(28,
            "Plays the table to its end; the table itself does not change. The moves are kept as the log of the"
            + " latest play.");
        HotGames x = Boundary.made(FOUR);
        long before = x.checksum();
        x.play(LEFT, 0, 0);
        b.is("the state", x.checksum(), before);
        String log = Check.playedOf(x);
        b.is("the log", log, "0 100 200 300 300");
        x.remove(0);
        x.number(3);
        x.undo();
        x.best(LEFT);
        x.advice(LEFT, 3);
        b.is("the log stays", Check.playedOf(x), log);
        Check.lay(x, "star");
        x.play(RIGHT, 3, 3);
        b.is("a shorter log", Check.playedOf(x), "0");
        Check.lay(x, "1");
        x.play(RIGHT, 3, 3);
        b.is("an empty log", Check.playedOf(x), "");
    }

    private void played() {
        b.sentence(29, "Returns 100 * component + number of the option; NONE if there is no such move.");
        HotGames x = new HotGames();
        b.is("no play", x.played(0), NONE);
        b.is("a play of three moves", x.play(RIGHT, 0, 0), -1024);
        b.is("its last move", x.played(2), 100);
        for (int k : new int[] {-1, 3, 4, 23, 24, 25, 256, 65536, MIN, MAX}) {
            b.is("move " + k, x.played(k), NONE);
        }
        HotGames y = Boundary.made(longest());
        b.is("the longest play", y.play(RIGHT, 0, 0), 0);
        for (int k = 0; k < 24; k++) {
            b.is("move " + k + " of the longest play", y.played(k), k / 6 * 100);
        }
        b.is("move 24 of the longest play", y.played(24), NONE);
        b.is("move -1 of the longest play", y.played(-1), NONE);
    }

    /** Four components of depth 6, in which the lowest options lead through all depths. */
    private static Boundary.Setup longest() {
        return x -> {
            int game = 3;
            for (int depth = 2; depth <= 6; depth++) {
                int zero = Check.read(x, "{-" + depth + "|" + depth + "}");
                for (int side = LEFT; side <= RIGHT; side++) {
                    x.draft(side, game);
                    x.draft(side, zero);
                }
                game = x.make();
            }
            Check.lay(x);
            for (int c = 0; c < 4; c++) {
                x.add(game);
            }
        };
    }
}

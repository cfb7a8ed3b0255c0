/** The bounds of comparison and of thermographs: their terms, and promises 11 to 19. */
final class ThermographBoundaries {
    private static final int NONE = Boundary.NONE;
    private static final int LEFT = Boundary.LEFT;
    private static final int RIGHT = Boundary.RIGHT;
    private static final int MIN = Boundary.MIN;
    private static final int MAX = Boundary.MAX;
    /** Games of depth 1 to 6 whose means and temperatures get finer with every level. */
    private static final String[] FINE = {"{1/8|0}", "{1|%s}", "{2|%s}", "{4|%s}", "{8|%s}", "{%s|-8}"};

    private final Boundary b;

    ThermographBoundaries(Boundary b) {
        this.b = b;
    }

    void run() {
        optionsOfIntegers();
        optionsOfFractions();
        numbersThatAreNoGames();
        fourAnswers();
        valuesOfGames();
        finestValues();
        wallsOfColdGames();
        meetingAtOnce();
        leastMeeting();
        behindTheTemperature();
        corners();
        finestMeans();
        compareNoGame();
        isColdOfNoGame();
        valueRefused();
        dominated();
        reversible();
        meanOfNoGame();
        temperature();
        wall();
        corner();
    }

    private static int read(HotGames x, String text) {
        return Check.read(x, text);
    }

    // ---- terms

    private void optionsOfIntegers() {
        b.sentence(0,
            "an integer k above 0 has the left option k - 1 and no right option, an integer k below 0 has the"
            + " right option k + 1 and no left option, 0 has none");
        HotGames x = new HotGames();
        for (int k = 1; k <= 8; k++) {
            // {|k} is 0, which the left option k - 1 of k reaches
            b.is("{|" + k + "}", x.reversible(read(x, "{|" + k + "}"), RIGHT, 0), 1);
            b.is("{" + k + "|}", x.reversible(read(x, "{" + k + "|}"), LEFT, 0), 0);
        }
        x = new HotGames();
        for (int k = 1; k <= 8; k++) {
            b.is("{-" + k + "|}", x.reversible(read(x, "{-" + k + "|}"), LEFT, 0), 1);
            b.is("{|-" + k + "}", x.reversible(read(x, "{|-" + k + "}"), RIGHT, 0), 0);
        }
        b.is("{0|}", x.reversible(read(x, "{0|}"), LEFT, 0), 0);
        b.is("{|0}", x.reversible(read(x, "{|0}"), RIGHT, 0), 0);
        rightOptionIs("-8", "-7", "-55/8");
        rightOptionIs("-1", "0", "1/8");
        leftOptionIs("8", "7", "55/8");
        leftOptionIs("1", "0", "-1/8");
    }

    private void optionsOfFractions() {
        b.sentence(0,
            "any other number, p / q in lowest terms, has the left option (p - 1) / q and the right option (p +"
            + " 1) / q");
        rightOptionIs("1/8", "1/4", "3/8");
        rightOptionIs("-1/8", "0", "1/8");
        rightOptionIs("63/8", "8", "{8|}");
        rightOptionIs("-63/8", "-31/4", "-61/8");
        rightOptionIs("2/8", "1/2", "5/8");
        rightOptionIs("6/4", "2", "17/8");
        rightOptionIs("-1/2", "0", "1/8");
        leftOptionIs("-1/8", "-1/4", "-3/8");
        leftOptionIs("1/8", "0", "-1/8");
        leftOptionIs("-63/8", "-8", "{|-8}");
        leftOptionIs("63/8", "31/4", "61/8");
        leftOptionIs("-2/8", "-1/2", "-5/8");
        leftOptionIs("-6/4", "-2", "-17/8");
        leftOptionIs("1/2", "0", "-1/8");
    }

    /** {n,y|y} is confused with y and above all numbers below,
        so it is >= the right option of n if y is above that. */
    private void rightOptionIs(String number, String due, String above) {
        for (String y : new String[] {due, above}) {
            HotGames x = new HotGames();
            int option = read(x, number);
            int game = read(x, "{" + number + "," + y + "|" + y + "}");
            int i = x.option(game, LEFT, 0) == option ? 0 : 1;
            b.is("the right option of " + number + " and " + y, x.reversible(game, LEFT, i), y.equals(above) ? 1 : 0);
        }
    }

    private void leftOptionIs(String number, String due, String below) {
        for (String y : new String[] {due, below}) {
            HotGames x = new HotGames();
            int option = read(x, number);
            int game = read(x, "{" + y + "|" + number + "," + y + "}");
            int i = x.option(game, RIGHT, 0) == option ? 0 : 1;
            b.is("the left option of " + number + " and " + y, x.reversible(game, RIGHT, i), y.equals(below) ? 1 : 0);
        }
    }

    private void numbersThatAreNoGames() {
        b.sentence(0, "(These numbers need not be games.)");
        HotGames x = new HotGames();
        // neither 7 nor 31/4 nor -7 is a game here
        b.is("{|8}", x.reversible(read(x, "{|8}"), RIGHT, 0), 1);
        b.is("{|63/8}", x.reversible(read(x, "{|63/8}"), RIGHT, 0), 1);
        b.is("{-8|}", x.reversible(read(x, "{-8|}"), LEFT, 0), 1);
        b.is("8 and 63/8", x.compare(x.number(64), x.number(63)), 1);
        b.is("games", x.games(), 16);
    }

    private void fourAnswers() {
        b.sentence(0,
            "Two games are equal if G >= H and H >= G; G is greater than H if only G >= H, less if only H >= G;"
            + " otherwise they are confused.");
        HotGames x = new HotGames();
        b.is("{|} and 0", x.compare(read(x, "{|}"), 0), 0);
        b.is("{8|} and 8", x.compare(read(x, "{8|}"), read(x, "8")), 1);
        b.is("{|-8} and -8", x.compare(read(x, "{|-8}"), read(x, "-8")), 2);
        b.is("{7|} and 8", x.compare(read(x, "{7|}"), read(x, "8")), 0);
        b.is("{0|0} and 0", x.compare(3, 0), 3);
        b.is("up and 0, though both stops are 0", x.compare(4, 0), 1);
        b.is("down and 0", x.compare(read(x, "down"), 0), 2);
        b.is("up and the least positive number", x.compare(4, x.number(1)), 2);
        b.is("{1|-1} and its left stop", x.compare(5, 1), 3);
        b.is("{1|-1} and its right stop", x.compare(5, 2), 3);
        b.is("{1|{0|-2}} and its right stop, which it reaches", x.compare(read(x, "{1|{0|-2}}"), 0), 1);
        b.is("{1|{0|-2}} and its left stop", x.compare(read(x, "{1|{0|-2}}"), 1), 3);
        b.is("{{2|0}|-1} and its left stop, which reaches it", x.compare(8, 0), 2);
        b.is("{{2|0}|-1} and its right stop", x.compare(8, 2), 3);
        x = new HotGames();
        b.is("up and {up|up}", x.compare(4, read(x, "{up|up}")), 3);
        b.is("star and {0,star|0}, which is up and star", x.compare(3, 9), 2);
        b.is("{0,star|0} and 0", x.compare(9, 0), 3);
        b.is("{0,star|0} and up", x.compare(9, 4), 3);
        b.is("{2|-2} and {1|-1}", x.compare(read(x, "{2|-2}"), 5), 3);
        b.is("the last right option decides", x.compare(read(x, "{2|1,-2}"), 5), 3);
        b.is("the last left option decides", x.compare(5, read(x, "{-1,2|-2}")), 3);
        b.is("{2|-1} and {1|-1}", x.compare(read(x, "{2|-1}"), 5), 1);
        b.is("{1|-2} and {1|-1}", x.compare(read(x, "{1|-2}"), 5), 2);
        b.is("{1,0|-1} and {1|-1}", x.compare(read(x, "{1,0|-1,0}"), 5), 0);
    }

    private void valuesOfGames() {
        b.sentence(0,
            "A composed game has a value if it is equal to some number p / q, where q is a power of 2; the value"
            + " is this number then. A number is its own value. A game with a value is called cold, every other game"
            + " hot.");
        HotGames x = new HotGames();
        cold(x, "8", 8192);
        cold(x, "-8", -8192);
        cold(x, "{0|1/8}", 64);
        cold(x, "{-1/8|0}", -64);
        cold(x, "{star|star}", 0);
        hot(x, "{0|0}");
        hot(x, "{0|star}");
        hot(x, "{1/8|1/8}");
        x = new HotGames();
        cold(x, "{7|8}", 7680);
        hot(x, "{8|8}");
        hot(x, "{8|7}");
        cold(x, "{-8|8}", 0);
        hot(x, "{8|-8}");
        cold(x, "{1|{3|1}}", 2048);
        hot(x, "{1|{3|1},1}");
        cold(x, "{{2|0}|{0|-2}}", 0);
        x = new HotGames();
        hot(x, "{{3|1}|{0|-2}}");
        cold(x, "{{3|1}|2}", 1024);
        cold(x, "{{3|1/2}|2}", 1024);
        cold(x, "{{3|1/2}|3/4}", 512);
        cold(x, "{1/4|{1/2|-3}}", 512);
        cold(x, "{-3/4|{-1/2|-3}}", -512);
        cold(x, "{{3|-1/2}|-1/4}", -512);
        x = new HotGames();
        cold(x, "{{3|1}|{1|-3}}", 1024);
        hot(x, "{1,{3|1}|{1|-3}}");
        hot(x, "{{3|1}|{1|-3},1}");
    }

    private void cold(HotGames x, String text, int value) {
        int game = read(x, text);
        b.is("isCold of " + text, x.isCold(game), true);
        b.is("the value of " + text, Boundary.outcome(x, y -> y.value(game)), String.valueOf(value));
    }

    private void hot(HotGames x, String text) {
        int game = read(x, text);
        b.is("isCold of " + text, x.isCold(game), false);
        b.is("the value of " + text, Boundary.outcome(x, y -> y.value(game)), "IllegalStateException");
    }

    private void finestValues() {
        b.sentence(0, "(The value of a game is always a multiple of 1 / 512.)");
        HotGames x = new HotGames();
        cold(x, "{0|{0|{0|{0|{0|{0|1/8}}}}}}", 2);
        cold(x, "{{{{{{-1/8|0}|0}|0}|0}|0}|0}", -2);
        x = new HotGames();
        cold(x, "{{{{{{63/8|8}|8}|8}|8}|8}|8}", 8 * 1024 - 2);
        cold(x, "{{{{{{8|}|}|}|}|}|}", 14 * 1024);
        cold(x, "{|{|{|{|{|{|-8}}}}}}", -14 * 1024);
    }

    private void wallsOfColdGames() {
        b.sentence(0, "Let t be 0 or more. If G is cold, its left wall at t and its right wall at t are its value.");
        HotGames x = new HotGames();
        for (String text : new String[] {"0", "-8", "{0|1}", "{|}", "{{2|0}|{0|-2}}"}) {
            int game = read(x, text);
            int value = x.value(game);
            for (int t : new int[] {0, 1, 1024, 100000}) {
                b.is("the left wall of " + text + " at " + t, x.wall(game, LEFT, t), value);
                b.is("the right wall of " + text + " at " + t, x.wall(game, RIGHT, t), value);
            }
            b.is("the mean of " + text, x.mean(game), value);
        }
    }

    private void meetingAtOnce() {
        b.sentence(0, "(A hot game has left and right options, and a(0) is at least b(0).)");
        HotGames x = new HotGames();
        int[] games = {3, 4, 9, read(x, "{8|8}"), read(x, "{-8|-8}"), read(x, "{1,{8|1}|1}")};
        int[] means = {0, 0, 0, 8192, -8192, 1024};
        for (int k = 0; k < games.length; k++) {
            b.is("isCold of " + games[k], x.isCold(games[k]), false);
            b.is("the temperature of " + games[k], x.temperature(games[k]), 0);
            b.is("the mean of " + games[k], x.mean(games[k]), means[k]);
            b.is("the left wall of " + games[k] + " at 0", x.wall(games[k], LEFT, 0), means[k]);
            b.is("the right wall of " + games[k] + " at 1", x.wall(games[k], RIGHT, 1), means[k]);
        }
        int next = read(x, "{1/8|0}");
        b.is("a(0) just above b(0)", x.temperature(next), 64);
        b.is("its mean", x.mean(next), 64);
    }

    private void leastMeeting() {
        b.sentence(0, "The temperature of G is the least t with a(t) = b(t); this a(t) is the mean of G.");
        HotGames x = new HotGames();
        // here a(t) and b(t) are 0 for all t up to 1
        int always = read(x, "{{2|0}|0,{0|-2}}");
        b.is("isCold where the scaffolds lie on one another", x.isCold(always), false);
        b.is("the temperature where they meet for long", x.temperature(always), 0);
        b.is("the mean where they meet for long", x.mean(always), 0);
        // a(t) is 1 up to 1 and b(t) is 1 from 1/2 to 1
        int later = read(x, "{{3|1}|1/2,{1|-1}}");
        b.is("the left stop", x.wall(later, LEFT, 0), 1024);
        b.is("the right stop", x.wall(later, RIGHT, 0), 512);
        b.is("the temperature", x.temperature(later), 512);
        b.is("the mean", x.mean(later), 1024);
    }

    private void behindTheTemperature() {
        b.sentence(0,
            "Below the temperature the left wall of G at t is a(t), and its right wall b(t); from the temperature"
            + " on both are the mean.");
        HotGames x = new HotGames();
        int game = read(x, "{8|-8}");
        int t = 8 * 1024;
        b.is("the temperature", x.temperature(game), t);
        b.is("left at 0", x.wall(game, LEFT, 0), t);
        b.is("right at 0", x.wall(game, RIGHT, 0), -t);
        b.is("left just below", x.wall(game, LEFT, t - 1), 1);
        b.is("right just below", x.wall(game, RIGHT, t - 1), -1);
        for (int at : new int[] {t, t + 1, 100000}) {
            b.is("left from there on", x.wall(game, LEFT, at), 0);
            b.is("right from there on", x.wall(game, RIGHT, at), 0);
        }
    }

    private void corners() {
        b.sentence(0, "Its corners are t = 0 and all t at which its slope changes, in ascending order.");
        HotGames x = new HotGames();
        cornersOf(x, "0", LEFT, 0);
        cornersOf(x, "star", LEFT, 0);
        cornersOf(x, "star", RIGHT, 0);
        cornersOf(x, "{1/8|0}", LEFT, 0, 64);
        cornersOf(x, "{8|-8}", RIGHT, 0, 8192);
        cornersOf(x, "{{2|0}|0,{0|-2}}", LEFT, 0);
        // the left wall is upright up to 1 and has no corner at the temperature, the right one has
        cornersOf(x, "{{2|0}|-1}", LEFT, 0);
        cornersOf(x, "{{2|0}|-1}", RIGHT, 0, 1024);
        x = new HotGames();
        cornersOf(x, "{{8|0}|-5}", LEFT, 0, 4096, 4608);
        cornersOf(x, "{3/2,{4|1}|-8}", LEFT, 0, 512, 1536, 5376);
        cornersOf(x, "{8|-3/2,{-1|-4}}", RIGHT, 0, 512, 1536, 5376);
        x = new HotGames();
        int high = read(x, "{{{{{8|}|}|}|}|}");
        int low = read(x, "{|{|{|{|{|-8}}}}}");
        x.draft(LEFT, high);
        x.draft(RIGHT, low);
        int hottest = x.make();
        b.is("the last corner of the hottest game", x.corner(hottest, LEFT, 1), 13 * 1024);
        b.is("no corner behind it", x.corner(hottest, LEFT, 2), NONE);
    }

    private void cornersOf(HotGames x, String text, int side, int... due) {
        int game = read(x, text);
        for (int i = 0; i < due.length; i++) {
            b.is("corner " + i + " of side " + side + " of " + text, x.corner(game, side, i), due[i]);
        }
        b.is("corner " + due.length + " of side " + side + " of " + text, x.corner(game, side, due.length), NONE);
    }

    private void finestMeans() {
        b.sentence(0, "(All means, temperatures and corners are multiples of 1 / 512.)");
        // in 1/512: the temperatures 32, 240, 376, 700, 1374, 3409 and the means 32, 272, 648, 1348, 2722, -687
        int[] temperatures = {64, 480, 752, 1400, 2748, 6818};
        int[] means = {64, 544, 1296, 2696, 5444, -1374};
        HotGames x = new HotGames();
        String text = "";
        for (int k = 0; k < FINE.length; k++) {
            text = FINE[k].replace("%s", text);
            int game = read(x, text);
            b.is("the temperature of " + text, x.temperature(game), temperatures[k]);
            b.is("the mean of " + text, x.mean(game), means[k]);
            b.is("the last corner of " + text, lastCorner(x, game), temperatures[k]);
        }
    }

    private static int lastCorner(HotGames x, int game) {
        int last = NONE;
        for (int side = LEFT; side <= RIGHT; side++) {
            for (int i = 0; x.corner(game, side, i) != NONE; i++) {
                last = Math.max(last, x.corner(game, side, i));
            }
        }
        return last;
    }

    // ---- promises

    private void compareNoGame() {
        b.sentence(11, "Throws `IndexOutOfBoundsException` if one of them does not exist");
        b.gameRefused("compare as the first", Boundary.NEW, (x, game) -> x.compare(game, 0));
        b.gameRefused("compare as the other", Boundary.NEW, (x, game) -> x.compare(9, game));
        b.gameRefused("compare as both", Boundary.NEW, (x, game) -> x.compare(game, game));
        b.vanishedGameRefused("compare as the first", (x, game) -> x.compare(game, 0));
        b.vanishedGameRefused("compare as the other", (x, game) -> x.compare(0, game));
        b.sentence(11, "a game, possibly the same");
        HotGames x = Boundary.made(Boundary.full(40));
        for (int g = 0; g < 40; g++) {
            b.is("game " + g + " and itself", x.compare(g, g), 0);
        }
    }

    private void isColdOfNoGame() {
        b.sentence(12, "Throws `IndexOutOfBoundsException` if there is no such game");
        b.gameRefused("isCold", Boundary.NEW, (x, game) -> x.isCold(game));
        b.vanishedGameRefused("isCold", (x, game) -> x.isCold(game));
    }

    private void valueRefused() {
        b.sentence(13, "Throws `IndexOutOfBoundsException` if there is no such game");
        Boundary.Setup numberLast = x -> x.number(64);
        b.gameRefused("value", numberLast, (x, game) -> x.value(game));
        b.vanishedGameRefused("value", (x, game) -> x.value(game));
        b.sentence(13, "Throws `IllegalStateException` if the game is hot");
        for (int game : new int[] {3, 4, 5, 7, 8, 9}) {
            b.refused("value(" + game + ")", Check.STATE, x -> x.value(game));
        }
        HotGames x = new HotGames();
        b.is("a composed game that is cold", x.value(read(x, "{star|star}")), 0);
    }

    private void dominated() {
        b.sentence(14, "Throws `IndexOutOfBoundsException` if there is no such game");
        b.gameRefused("dominated", Boundary.NEW, (x, game) -> x.dominated(game, LEFT, 0));
        b.vanishedGameRefused("dominated", (x, game) -> x.dominated(game, RIGHT, 0));
        b.refused("no game, no side and no option", Check.INDEX, x -> x.dominated(10, 2, 9));
        b.sentence(14, "Throws `IllegalArgumentException` if side is neither 0 nor 1");
        b.sideRefused("dominated", Boundary.NEW, (x, side) -> x.dominated(9, side, 0));
        b.sideRefused("dominated, no option", Boundary.NEW, (x, side) -> x.dominated(0, side, 4));
        b.sentence(14, "Returns the lowest number of such an option; NONE if there is none, or no option i.");
        HotGames x = new HotGames();
        int rising = read(x, "{0,1,2,3|0,1,2,3}");
        int[] left = {1, 2, 3, NONE};
        int[] right = {NONE, 0, 0, 0};
        for (int i = 0; i < 4; i++) {
            b.is("rising left option " + i, x.dominated(rising, LEFT, i), left[i]);
            b.is("rising right option " + i, x.dominated(rising, RIGHT, i), right[i]);
        }
        for (int i : new int[] {-1, 4, 8, MIN, MAX}) {
            b.is("no left option " + i, x.dominated(rising, LEFT, i), NONE);
            b.is("no right option " + i, x.dominated(rising, RIGHT, i), NONE);
        }
        b.is("no option of a number", x.dominated(6, LEFT, 0), NONE);
        b.is("no option of {|}", x.dominated(read(x, "{|}"), LEFT, 0), NONE);
        b.is("no other option", x.dominated(5, RIGHT, 0), NONE);
        b.is("confused ones", x.dominated(9, LEFT, 0) + x.dominated(9, LEFT, 1), 2 * NONE);
        b.sentence(14,
            "a left option by another left option that is greater, or equal with a lower number; a right option"
            + " by another right option that is less, or equal with a lower number");
        int equal = read(x, "{0,{|},{-1|1},{-2|2}|0,{|},{-1|1},{-2|2}}");
        for (int i = 0; i < 4; i++) {
            b.is("equal left option " + i, x.dominated(equal, LEFT, i), i == 0 ? NONE : 0);
            b.is("equal right option " + i, x.dominated(equal, RIGHT, i), i == 0 ? NONE : 0);
        }
        // an equal one in front and a better one behind: the lowest number counts
        int mixed = read(x, "{0,{|},1|0,{|},-1}");
        b.is("0 by 1, which is option 1", x.dominated(mixed, LEFT, 0), 1);
        b.is("{|} by 0", x.dominated(mixed, LEFT, 2), 0);
        b.is("0 by -1, which is option 1", x.dominated(mixed, RIGHT, 0), 1);
        b.is("{|} by 0", x.dominated(mixed, RIGHT, 2), 0);
    }

    private void reversible() {
        b.sentence(15, "Throws `IndexOutOfBoundsException` if there is no such game");
        b.gameRefused("reversible", Boundary.NEW, (x, game) -> x.reversible(game, LEFT, 0));
        b.vanishedGameRefused("reversible", (x, game) -> x.reversible(game, RIGHT, 0));
        b.refused("no game, no side and no option", Check.INDEX, x -> x.reversible(10, 2, 9));
        b.sentence(15, "Throws `IllegalArgumentException` if side is neither 0 nor 1");
        b.sideRefused("reversible", Boundary.NEW, (x, side) -> x.reversible(9, side, 0));
        b.sideRefused("reversible, no option", Boundary.NEW, (x, side) -> x.reversible(0, side, 4));
        b.sentence(15, "Returns 1 if there is such an R or L; 0 if there is none; NONE if there is no option i.");
        HotGames x = new HotGames();
        int four = read(x, "{0,1,2,{|}|0,1,2,{|}}");
        b.is("an option without options", x.reversible(four, LEFT, 3), 0);
        b.is("an option without options", x.reversible(four, RIGHT, 3), 0);
        for (int i : new int[] {-1, 4, 8, MIN, MAX}) {
            b.is("no left option " + i, x.reversible(four, LEFT, i), NONE);
            b.is("no right option " + i, x.reversible(four, RIGHT, i), NONE);
        }
        b.is("no option of a number", x.reversible(6, LEFT, 0), NONE);
        b.sentence(15,
            "a left option by one of its own right options R for which the game >= R; a right option by one of"
            + " its own left options L for which L >= the game");
        b.is("{star|} and the right option 0 of star, equal to it", x.reversible(read(x, "{star|}"), LEFT, 0), 1);
        b.is("{|star} and the left option 0 of star, equal to it", x.reversible(read(x, "{|star}"), RIGHT, 0), 1);
        b.is("{star|0} is not >= the right option 0 of star", x.reversible(read(x, "{star|0}"), LEFT, 0), 0);
        b.is("the left option 0 of star is not >= {0|star}", x.reversible(4, RIGHT, 0), 0);
        b.is("the last of the right options", x.reversible(read(x, "{{0|2,1,-3}|0}"), LEFT, 0), 1);
    }

    private void meanOfNoGame() {
        b.sentence(16, "Throws `IndexOutOfBoundsException` if there is no such game");
        b.gameRefused("mean", Boundary.NEW, (x, game) -> x.mean(game));
        b.vanishedGameRefused("mean", (x, game) -> x.mean(game));
    }

    private void temperature() {
        b.sentence(17, "Throws `IndexOutOfBoundsException` if there is no such game");
        b.gameRefused("temperature", Boundary.NEW, (x, game) -> x.temperature(game));
        b.vanishedGameRefused("temperature", (x, game) -> x.temperature(game));
        b.sentence(17, "Returns the temperature, multiplied by 1024; NONE if the game is cold.");
        HotGames x = new HotGames();
        b.is("0", x.temperature(0), NONE);
        b.is("{star|star}", x.temperature(read(x, "{star|star}")), NONE);
        b.is("star, which is hot", x.temperature(3), 0);
        b.is("{1|-1}", x.temperature(5), 1024);
    }

    private void wall() {
        b.sentence(18, "Throws `IndexOutOfBoundsException` if there is no such game");
        b.gameRefused("wall", Boundary.NEW, (x, game) -> x.wall(game, LEFT, 0));
        b.vanishedGameRefused("wall", (x, game) -> x.wall(game, RIGHT, 0));
        b.refused("no game, no side and no t", Check.INDEX, x -> x.wall(10, 2, -1));
        b.sentence(18, "Throws `IllegalArgumentException` if side is neither 0 nor 1, or t is out of range");
        b.sideRefused("wall", Boundary.NEW, (x, side) -> x.wall(9, side, 0));
        b.sideRefused("wall of a number", Boundary.NEW, (x, side) -> x.wall(0, side, 100000));
        for (int side = LEFT; side <= RIGHT; side++) {
            int at = side;
            b.is("t is 0", new HotGames().wall(5, side, 0), side == LEFT ? 1024 : -1024);
            b.is("t is 100000", new HotGames().wall(5, side, 100000), 0);
            for (int t : new int[] {-1, 100001, MIN, MAX, 1 << 17}) {
                b.refused("t is " + t, Check.ARGUMENT, x -> x.wall(5, at, t));
                b.refused("t is " + t + " for a number", Check.ARGUMENT, x -> x.wall(0, at, t));
            }
        }
        b.refused("neither side nor t", Check.ARGUMENT, x -> x.wall(5, 2, -1));
    }

    private void corner() {
        b.sentence(19, "Throws `IndexOutOfBoundsException` if there is no such game");
        b.gameRefused("corner", Boundary.NEW, (x, game) -> x.corner(game, LEFT, 0));
        b.vanishedGameRefused("corner", (x, game) -> x.corner(game, RIGHT, 0));
        b.refused("no game, no side and no corner", Check.INDEX, x -> x.corner(10, 2, -1));
        b.sentence(19, "Throws `IllegalArgumentException` if side is neither 0 nor 1");
        b.sideRefused("corner", Boundary.NEW, (x, side) -> x.corner(9, side, 0));
        b.sideRefused("no corner", Boundary.NEW, (x, side) -> x.corner(0, side, 1));
        b.sentence(19, "Returns t at the corner, multiplied by 1024; NONE if there is no such corner.");
        HotGames x = new HotGames();
        for (int game = 0; game < 10; game++) {
            b.is("the first corner of " + game, x.corner(game, LEFT, 0), 0);
            for (int i : new int[] {-1, 2, 3, 100, MIN, MAX}) {
                b.is("corner " + i + " of " + game, x.corner(game, RIGHT, i), NONE);
            }
        }
        b.is("corner 1 of a number", x.corner(0, LEFT, 1), NONE);
        b.is("corner 1 of star", x.corner(3, RIGHT, 1), NONE);
        b.is("corner 1 of {1|-1}", x.corner(5, RIGHT, 1), 1024);
    }
}

/** The promises of the document, one by one: ordinary inputs, edges and wrong inputs. */
public final class PromisesTest {
    private static final int LEFT = 0;
    private static final int RIGHT = 1;
    private static final int NONE = HotGames.NONE;
    private static final Check check = new Check("promises");

    public static void main(String[] args) {
        promise1NewObject();
        promise2Games();
        promise3Number();
        promise4Draft();
        promise5ClearDraft();
        promise6Make();
        promise7Negative();
        promise8Options();
        promise9Option();
        promise10Depth();
        promise11Compare();
        promise12And13Cold();
        promise14Dominated();
        promise15Reversible();
        promise16And17Mean();
        promise18Wall();
        promise19Corner();
        promise20Add();
        promise21To23Components();
        promise24Move();
        promise25Size();
        promise26Best();
        promise27Advice();
        promise28And29Play();
        promise30And31Text();
        promise32Fault();
        promise32FaultOfNumbers();
        promise33Read();
        promise34And35Write();
        promise36Undo();
        promise36NumbersAgain();
        promise37Checksum();
        check.end();
    }

    private static void promise1NewObject() {
        HotGames x = new HotGames();
        String[] due = {"0", "1", "-1", "{0|0}", "{0|{0|0}}", "{1|-1}", "2", "{2|0}", "{{2|0}|-1}", "{0,{0|0}|0}"};
        check.is("new: games", x.games(), due.length);
        check.is("new: written(0)", x.written(0), NONE);
        for (int g = 0; g < due.length; g++) {
            check.is("new: game " + g, Check.write(x, g), due[g]);
        }
        check.is("new: components", x.components(), 2);
        check.is("new: component(0)", x.component(0), 5);
        check.is("new: component(1)", x.component(1), 8);
        check.is("new: text", x.clearText(), 0);
        check.is("new: draft", x.clearDraft(), 0);
        check.is("new: played(0)", x.played(0), NONE);
        check.refused("new: undo", x, Check.STATE, x::undo);
        check.is("NONE", NONE, -1);
        HotGames y = new HotGames();
        y.number(5);
        check.is("new: apart from another object", x.games(), 10);
    }

    private static void promise2Games() {
        HotGames x = new HotGames();
        check.is("games", x.games(), 10);
        x.number(3);
        check.is("games behind number", x.games(), 11);
        x.number(3);
        check.is("games behind the same number", x.games(), 11);
        x.undo();
        x.undo();
        check.is("games behind undo", x.games(), 10);
    }

    private static void promise3Number() {
        HotGames x = new HotGames();
        check.is("number(0)", x.number(0), 0);
        check.is("number(8)", x.number(8), 1);
        check.is("number(64)", x.number(64), 10);
        check.is("number(-64)", x.number(-64), 11);
        check.is("number(-1)", x.number(-1), 12);
        check.is("value of -1/8", x.value(12), -128);
        check.is("value of 8", x.value(10), 8192);
        check.is("number(64) again", x.number(64), 10);
        check.is("undo behind seven", x.undo(), 5);
        int[] wrong = {65, -65, Integer.MAX_VALUE, Integer.MIN_VALUE};
        for (int n : wrong) {
            check.refused("number(" + n + ")", x, Check.ARGUMENT, () -> x.number(n));
        }
    }

    private static void promise4Draft() {
        HotGames x = new HotGames();
        check.is("draft(0, 3)", x.draft(LEFT, 3), 1);
        check.is("draft(0, 3) again", x.draft(LEFT, 3), 1);
        check.is("draft(1, 3)", x.draft(RIGHT, 3), 1);
        check.is("draft(0, 0)", x.draft(LEFT, 0), 2);
        check.is("draft(0, 9)", x.draft(LEFT, 9), 3);
        check.is("draft(0, 5)", x.draft(LEFT, 5), 4);
        check.is("draft(0, 5) as a fifth, the same", x.draft(LEFT, 5), 4);
        check.refused("draft(0, 6) as a fifth", x, Check.STATE, () -> x.draft(LEFT, 6));
        check.is("draft(1, 6)", x.draft(RIGHT, 6), 2);
        check.refused("draft(0, 10)", x, Check.INDEX, () -> x.draft(LEFT, 10));
        check.refused("draft(0, -1)", x, Check.INDEX, () -> x.draft(LEFT, -1));
        check.refused("draft(2, 10)", x, Check.INDEX, () -> x.draft(2, 10));
        check.refused("draft(2, 0)", x, Check.ARGUMENT, () -> x.draft(2, 0));
        check.refused("draft(-1, 0)", x, Check.ARGUMENT, () -> x.draft(-1, 0));
        check.is("draft is not undoable", savedStates(x), 0);
    }

    private static int savedStates(HotGames x) {
        int n = 0;
        try {
            for (; n < 100; n++) {
                x.undo();
            }
        } catch (IllegalStateException e) {
            return n;
        }
        return n;
    }

    private static void promise5ClearDraft() {
        HotGames x = new HotGames();
        x.draft(LEFT, 1);
        x.draft(LEFT, 2);
        x.draft(RIGHT, 2);
        check.is("clearDraft", x.clearDraft(), 3);
        check.is("clearDraft again", x.clearDraft(), 0);
        check.is("draft behind clearDraft", x.draft(LEFT, 7), 1);
        check.is("clearDraft is not undoable", savedStates(x), 0);
    }

    private static void promise6Make() {
        HotGames x = new HotGames();
        check.is("make {|}", x.make(), 10);
        check.is("make {|} again", x.make(), 10);
        check.is("{|} is not the number 0", x.options(10, LEFT) + x.depth(10), 1);
        x.draft(RIGHT, 0);
        x.draft(LEFT, 3);
        x.draft(LEFT, 0);
        check.is("make game 9 again", x.make(), 9);
        check.is("the draft is empty then", x.clearDraft(), 0);
        x.draft(RIGHT, 9);
        x.draft(RIGHT, 0);
        x.draft(RIGHT, 4);
        check.is("make {|0,up,9}", x.make(), 11);
        check.is("options in order, 0", x.option(11, RIGHT, 0), 0);
        check.is("options in order, 1", x.option(11, RIGHT, 1), 4);
        check.is("options in order, 2", x.option(11, RIGHT, 2), 9);
        check.is("make saves, also without a new game", x.undo(), 3);
        check.is("undo takes the new game", x.games(), 11);
        check.is("undo", x.undo(), 2);
        check.is("undo", x.undo(), 1);
        check.is("undo", x.undo(), 0);
        check.is("games", x.games(), 10);
    }

    private static void promise7Negative() {
        HotGames x = new HotGames();
        check.is("negative of 1", x.negative(1), 2);
        check.is("negative of 0", x.negative(0), 0);
        check.is("negative of star", x.negative(3), 3);
        check.is("negative of up", x.negative(4), 10);
        check.is("that is down", Check.write(x, 10), "{{0|0}|0}");
        check.is("negative of +-1", x.negative(5), 5);
        check.is("negative of {{2|0}|-1}", x.negative(8), 13);
        check.is("its parts come first", Check.write(x, 11) + Check.write(x, 12), "-2{0|-2}");
        check.is("the negative", Check.write(x, 13), "{1|{0|-2}}");
        check.is("negative of that", x.negative(13), 8);
        check.is("negative of {0,star|0}", x.negative(9), 14);
        check.is("that one", Check.write(x, 14), "{0|0,{0|0}}");
        check.is("games", x.games(), 15);
        check.refused("negative(15)", x, Check.INDEX, () -> x.negative(15));
        check.refused("negative(-1)", x, Check.INDEX, () -> x.negative(-1));
        check.is("undo of a negative that had to be made", x.undo(), 5);
        check.is("games", x.games(), 14);
        check.is("undo of one that had not", x.undo(), 4);
        check.is("games", x.games(), 14);
        check.is("undo of one with parts", x.undo(), 3);
        check.is("games", x.games(), 11);
    }

    private static void promise8Options() {
        HotGames x = new HotGames();
        check.is("options of a number", x.options(1, LEFT) + x.options(2, RIGHT), 0);
        check.is("left options of 9", x.options(9, LEFT), 2);
        check.is("right options of 9", x.options(9, RIGHT), 1);
        check.refused("options(10, 0)", x, Check.INDEX, () -> x.options(10, LEFT));
        check.refused("options(10, 2)", x, Check.INDEX, () -> x.options(10, 2));
        check.refused("options(-1, 0)", x, Check.INDEX, () -> x.options(-1, LEFT));
        check.refused("options(9, 2)", x, Check.ARGUMENT, () -> x.options(9, 2));
        check.refused("options(9, -1)", x, Check.ARGUMENT, () -> x.options(9, -1));
    }

    private static void promise9Option() {
        HotGames x = new HotGames();
        check.is("option(9, 0, 0)", x.option(9, LEFT, 0), 0);
        check.is("option(9, 0, 1)", x.option(9, LEFT, 1), 3);
        check.is("option(9, 0, 2)", x.option(9, LEFT, 2), NONE);
        check.is("option(9, 1, 0)", x.option(9, RIGHT, 0), 0);
        check.is("option(9, 1, 1)", x.option(9, RIGHT, 1), NONE);
        check.is("option(9, 0, -1)", x.option(9, LEFT, -1), NONE);
        check.is("option(9, 1, min)", x.option(9, RIGHT, Integer.MIN_VALUE), NONE);
        check.is("option(9, 1, max)", x.option(9, RIGHT, Integer.MAX_VALUE), NONE);
        check.is("option(1, 0, 0)", x.option(1, LEFT, 0), NONE);
        check.refused("option(10, 5, 0)", x, Check.INDEX, () -> x.option(10, 5, 0));
        check.refused("option(9, 5, 9)", x, Check.ARGUMENT, () -> x.option(9, 5, 9));
    }

    private static void promise10Depth() {
        HotGames x = new HotGames();
        int[] due = {0, 0, 0, 1, 2, 1, 0, 1, 2, 2};
        for (int g = 0; g < due.length; g++) {
            check.is("depth(" + g + ")", x.depth(g), due[g]);
        }
        check.is("depth of {|}", x.depth(Check.read(x, "{|}")), 1);
        check.is("depth of {|{{{{{|}|}|}|}|}}", x.depth(Check.read(x, "{|{{{{{|}|}|}|}|}}")), 6);
        check.refused("depth(40)", x, Check.INDEX, () -> x.depth(40));
        check.refused("depth(-1)", x, Check.INDEX, () -> x.depth(-1));
    }

    private static void promise11Compare() {
        HotGames x = new HotGames();
        check.is("0 and 0", compare(x, "0", "0"), 0);
        check.is("1 and 0", compare(x, "1", "0"), 1);
        check.is("-1/8 and 0", compare(x, "-1/8", "0"), 2);
        check.is("star and 0", compare(x, "star", "0"), 3);
        check.is("up and 0", compare(x, "up", "0"), 1);
        check.is("down and 0", compare(x, "down", "0"), 2);
        check.is("up and star", compare(x, "up", "star"), 3);
        check.is("up and 1/8", compare(x, "up", "1/8"), 2);
        check.is("{1|-1} and 1", compare(x, "{1|-1}", "1"), 3);
        check.is("{1|-1} and 9/8", compare(x, "{1|-1}", "9/8"), 2);
        check.is("{0|1} and 1/2", compare(x, "{0|1}", "1/2"), 0);
        check.is("{|} and 0", compare(x, "{|}", "0"), 0);
        check.is("{star|star} and 0", compare(x, "{star|star}", "0"), 0);
        check.is("{up|down} and star", compare(x, "{up|down}", "star"), 0);
        check.is("{7|7} and 8", compare(x, "{7|7}", "8"), 2);
        HotGames y = new HotGames();
        check.refused("compare(0, 10)", y, Check.INDEX, () -> y.compare(0, 10));
        check.refused("compare(10, 0)", y, Check.INDEX, () -> y.compare(10, 0));
        check.refused("compare(-1, 0)", y, Check.INDEX, () -> y.compare(-1, 0));
        check.refused("compare(0, -1)", y, Check.INDEX, () -> y.compare(0, -1));
    }

    private static int compare(HotGames x, String one, String other) {
        int first = Check.read(x, one);
        int second = Check.read(x, other);
        int there = x.compare(first, second);
        int back = x.compare(second, first);
        check.is(one + " and " + other + ", turned", back, there == 1 ? 2 : there == 2 ? 1 : there);
        return there;
    }

    private static void promise12And13Cold() {
        HotGames x = new HotGames();
        cold(x, "{|}", 0);
        cold(x, "{7|}", 8 * 1024);
        cold(x, "{8|}", 9 * 1024);
        cold(x, "{|-8}", -9 * 1024);
        cold(x, "{{{{{{8|}|}|}|}|}|}", 14 * 1024);
        cold(x, "{1/2|}", 1024);
        cold(x, "{|1/2}", 0);
        cold(x, "{-1/2|}", 0);
        x = new HotGames();
        cold(x, "{0|1}", 512);
        cold(x, "{1/4|3}", 1024);
        cold(x, "{5/2|5}", 3 * 1024);
        cold(x, "{-5|-5/2}", -3 * 1024);
        cold(x, "{1/8|3/8}", 256);
        cold(x, "{3/8|1/2}", 448);
        cold(x, "{-1/2|-3/8}", -448);
        cold(x, "{-3|4}", 0);
        x = new HotGames();
        cold(x, "{0|{0|{0|{0|{0|{0|1/8}}}}}}", 2);
        cold(x, "{star|star}", 0);
        cold(x, "{star|up}", 0);
        cold(x, "{+-1|}", 0);
        cold(x, "{{3|2}|}", 2 * 1024);
        cold(x, "{|{-2|-3}}", -2 * 1024);
        x = new HotGames();
        cold(x, "{{3|1}|2}", 1024);
        cold(x, "{1|{3|1}}", 2048);
        hot(x, "star");
        hot(x, "up");
        hot(x, "{1|1}");
        hot(x, "{up|0}");
        hot(x, "{1|-1}");
        hot(x, "{{4|1}|1}");
        HotGames y = new HotGames();
        check.is("isCold of a number", y.isCold(2), true);
        check.refused("value of star", y, Check.STATE, () -> y.value(3));
        check.refused("isCold(10)", y, Check.INDEX, () -> y.isCold(10));
        check.refused("value(10)", y, Check.INDEX, () -> y.value(10));
        check.refused("value(-1)", y, Check.INDEX, () -> y.value(-1));
    }

    private static void cold(HotGames x, String text, int value) {
        int game = Check.read(x, text);
        check.is(text + " is cold", x.isCold(game), true);
        if (x.isCold(game)) {
            check.is("the value of " + text, x.value(game), value);
        }
        check.is("the mean of " + text, x.mean(game), value);
        check.is("the temperature of " + text, x.temperature(game), NONE);
        check.is("the left wall of " + text, x.wall(game, LEFT, 77), value);
        check.is("the right wall of " + text, x.wall(game, RIGHT, 0), value);
        check.is("the corners of " + text, x.corner(game, LEFT, 1), NONE);
    }

    private static void hot(HotGames x, String text) {
        int game = Check.read(x, text);
        check.is(text + " is cold", x.isCold(game), false);
        check.refused("the value of " + text, x, Check.STATE, () -> x.value(game));
    }

    private static void promise14Dominated() {
        HotGames x = new HotGames();
        int g = Check.read(x, "{0,1,-1,2|0,1,-1,2}");
        int[] left = {1, 3, 0, NONE};
        int[] right = {2, 0, NONE, 0};
        for (int i = 0; i < 4; i++) {
            check.is("dominated left " + i, x.dominated(g, LEFT, i), left[i]);
            check.is("dominated right " + i, x.dominated(g, RIGHT, i), right[i]);
        }
        check.is("dominated, no option 4", x.dominated(g, LEFT, 4), NONE);
        check.is("dominated, no option -1", x.dominated(g, RIGHT, -1), NONE);
        int equal = Check.read(x, "{1,{0|},{{|}|}|2,{1|}}");
        check.is("dominated by an equal one", x.dominated(equal, LEFT, 1), 0);
        check.is("dominated by the lowest equal one", x.dominated(equal, LEFT, 2), 0);
        check.is("not dominated by an equal one behind", x.dominated(equal, LEFT, 0), NONE);
        check.is("dominated right by an equal one", x.dominated(equal, RIGHT, 1), 0);
        check.is("not dominated right", x.dominated(equal, RIGHT, 0), NONE);
        check.is("confused options", x.dominated(9, LEFT, 0), NONE);
        check.is("confused options", x.dominated(9, LEFT, 1), NONE);
        check.refused("dominated(99, 3, 0)", x, Check.INDEX, () -> x.dominated(99, 3, 0));
        check.refused("dominated(9, 3, 0)", x, Check.ARGUMENT, () -> x.dominated(9, 3, 0));
    }

    private static void promise15Reversible() {
        HotGames x = new HotGames();
        check.is("{0|star}: 0", reversible(x, "up", LEFT, 0), 0);
        check.is("{0|star}: star", reversible(x, "up", RIGHT, 0), 0);
        check.is("{up|down}: up", reversible(x, "{up|down}", LEFT, 0), 1);
        check.is("{up|down}: down", reversible(x, "{up|down}", RIGHT, 0), 1);
        check.is("{-2|}: -2 has the right option -1", reversible(x, "{-2|}", LEFT, 0), 1);
        check.is("{-1|}: -1 has the right option 0", reversible(x, "{-1|}", LEFT, 0), 1);
        check.is("{-1|-1}: -1 has the right option 0", reversible(x, "{-1|-1}", LEFT, 0), 0);
        check.is("{2|}: 2 has no right option", reversible(x, "{2|}", LEFT, 0), 0);
        check.is("{0|}: 0 has no right option", reversible(x, "{0|}", LEFT, 0), 0);
        check.is("{|2}: 2 has the left option 1", reversible(x, "{|2}", RIGHT, 0), 1);
        check.is("{|-2}: -2 has no left option", reversible(x, "{|-2}", RIGHT, 0), 0);
        x = new HotGames();
        check.is("{1/2|}: 1/2 has the right option 1", reversible(x, "{1/2|}", LEFT, 0), 1);
        check.is("{1/2|1}: 1/2 has the right option 1", reversible(x, "{1/2|1}", LEFT, 0), 0);
        check.is("{-7/8|-1/8}: -7/8 has the right option -3/4", reversible(x, "{-7/8|-1/8}", LEFT, 0), 1);
        check.is("{-3/4|-5/8}: -3/4 has the right option -1/2", reversible(x, "{-3/4|-5/8}", LEFT, 0), 0);
        check.is("{5/8|3/4}: 3/4 has the left option 1/2", reversible(x, "{5/8|3/4}", RIGHT, 0), 0);
        check.is("{3/8|7/8}: 7/8 has the left option 3/4", reversible(x, "{3/8|7/8}", RIGHT, 0), 1);
        check.is("no option 1", reversible(x, "up", LEFT, 1), NONE);
        check.is("no option -1", reversible(x, "up", RIGHT, -1), NONE);
        check.is("options of a number", reversible(x, "2", LEFT, 0), NONE);
        HotGames y = new HotGames();
        check.refused("reversible(10, 2, 0)", y, Check.INDEX, () -> y.reversible(10, 2, 0));
        check.refused("reversible(9, 2, 0)", y, Check.ARGUMENT, () -> y.reversible(9, 2, 0));
    }

    private static int reversible(HotGames x, String text, int side, int i) {
        return x.reversible(Check.read(x, text), side, i);
    }

    private static void promise16And17Mean() {
        HotGames x = new HotGames();
        meanAndTemperature(x, "star", 0, 0);
        meanAndTemperature(x, "up", 0, 0);
        meanAndTemperature(x, "+-3/8", 0, 384);
        meanAndTemperature(x, "{3|2}", 2560, 512);
        meanAndTemperature(x, "{{2|0}|-1}", 0, 1024);
        meanAndTemperature(x, "{{8|0}|-5}", -512, 4608);
        meanAndTemperature(x, "{{4|1}|{0|-1}}", 1024, 1536);
        x = new HotGames();
        meanAndTemperature(x, "{{5|4}|{-3|-7}}", -256, 4864);
        meanAndTemperature(x, "{8|{{4|0}|-8}}", 2560, 5632);
        meanAndTemperature(x, "{1,{5|-3}|-1}", 0, 1024);
        meanAndTemperature(x, "{1|1}", 1024, 0);
        check.is("temperature of a cold game", x.temperature(1), NONE);
        check.is("mean of a number", x.mean(6), 2048);
        HotGames y = new HotGames();
        check.refused("mean(10)", y, Check.INDEX, () -> y.mean(10));
        check.refused("mean(-1)", y, Check.INDEX, () -> y.mean(-1));
        check.refused("temperature(10)", y, Check.INDEX, () -> y.temperature(10));
        check.refused("temperature(-1)", y, Check.INDEX, () -> y.temperature(-1));
    }

    private static void meanAndTemperature(HotGames x, String text, int mean, int temperature) {
        int game = Check.read(x, text);
        check.is("the mean of " + text, x.mean(game), mean);
        check.is("the temperature of " + text, x.temperature(game), temperature);
    }

    private static void promise18Wall() {
        HotGames x = new HotGames();
        check.is("{2|0} left at 0", x.wall(7, LEFT, 0), 2048);
        check.is("{2|0} right at 0", x.wall(7, RIGHT, 0), 0);
        check.is("{2|0} left at 1", x.wall(7, LEFT, 1), 2047);
        check.is("{2|0} right at 1", x.wall(7, RIGHT, 1), 1);
        check.is("{2|0} left at 1023", x.wall(7, LEFT, 1023), 1025);
        check.is("{2|0} left at 1024", x.wall(7, LEFT, 1024), 1024);
        check.is("{2|0} left at 1025", x.wall(7, LEFT, 1025), 1024);
        check.is("{2|0} right at 100000", x.wall(7, RIGHT, 100000), 1024);
        check.is("{{2|0}|-1} left at 500", x.wall(8, LEFT, 500), 0);
        check.is("{{2|0}|-1} right at 500", x.wall(8, RIGHT, 500), -524);
        check.is("a number at 100000", x.wall(1, LEFT, 100000), 1024);
        check.refused("wall(10, 2, -1)", x, Check.INDEX, () -> x.wall(10, 2, -1));
        check.refused("wall(9, 2, 0)", x, Check.ARGUMENT, () -> x.wall(9, 2, 0));
        check.refused("wall(9, -1, 0)", x, Check.ARGUMENT, () -> x.wall(9, -1, 0));
        check.refused("wall(9, 0, -1)", x, Check.ARGUMENT, () -> x.wall(9, LEFT, -1));
        check.refused("wall(9, 0, 100001)", x, Check.ARGUMENT, () -> x.wall(9, LEFT, 100001));
    }

    private static void promise19Corner() {
        HotGames x = new HotGames();
        corners(x, "1", LEFT, 0);
        corners(x, "star", RIGHT, 0);
        corners(x, "{2|0}", LEFT, 0, 1024);
        corners(x, "{2|0}", RIGHT, 0, 1024);
        corners(x, "{{2|0}|-1}", LEFT, 0);
        corners(x, "{{8|0}|-5}", LEFT, 0, 4096, 4608);
        corners(x, "{{4|1}|-7}", LEFT, 0, 1536, 4864);
        corners(x, "{{4|1}|-7}", RIGHT, 0, 4864);
        x = new HotGames();
        // the greater of the right walls 3/2 and 1 + t, which ends at 5/2, less t
        corners(x, "{3/2,{4|1}|-8}", LEFT, 0, 512, 1536, 5376);
        corners(x, "{-8|{8|-8}}", LEFT, 0);
        check.is("corner -1", x.corner(5, LEFT, -1), NONE);
        check.is("corner min", x.corner(5, LEFT, Integer.MIN_VALUE), NONE);
        check.is("corner max", x.corner(5, RIGHT, Integer.MAX_VALUE), NONE);
        HotGames y = new HotGames();
        check.refused("corner(10, 2, 0)", y, Check.INDEX, () -> y.corner(10, 2, 0));
        check.refused("corner(9, 2, 0)", y, Check.ARGUMENT, () -> y.corner(9, 2, 0));
    }

    private static void corners(HotGames x, String text, int side, int... due) {
        int game = Check.read(x, text);
        for (int i = 0; i < due.length; i++) {
            check.is("corner " + i + " of side " + side + " of " + text, x.corner(game, side, i), due[i]);
        }
        check.is("corners of side " + side + " of " + text, x.corner(game, side, due.length), NONE);
    }

    private static void promise20Add() {
        HotGames x = new HotGames();
        check.is("add(1)", x.add(1), 3);
        check.is("add(1) again", x.add(1), 4);
        check.is("component(3)", x.component(3), 1);
        check.refused("add(1) as a fifth", x, Check.STATE, () -> x.add(1));
        check.refused("add(10) as a fifth", x, Check.INDEX, () -> x.add(10));
        check.refused("add(-1)", x, Check.INDEX, () -> x.add(-1));
        check.is("undo", x.undo(), 1);
        check.is("components", x.components(), 3);
        check.is("undo", x.undo(), 0);
        check.is("components", x.components(), 2);
    }

    private static void promise21To23Components() {
        HotGames x = new HotGames();
        x.add(3);
        x.add(6);
        check.is("remove(1)", x.remove(1), 8);
        check.is("components", x.components(), 3);
        check.is("component(0)", x.component(0), 5);
        check.is("component(1)", x.component(1), 3);
        check.is("component(2)", x.component(2), 6);
        check.refused("component(3)", x, Check.INDEX, () -> x.component(3));
        check.refused("component(-1)", x, Check.INDEX, () -> x.component(-1));
        check.refused("remove(3)", x, Check.INDEX, () -> x.remove(3));
        check.refused("remove(-1)", x, Check.INDEX, () -> x.remove(-1));
        check.is("undo", x.undo(), 2);
        check.is("component(1)", x.component(1), 8);
        check.is("component(3)", x.component(3), 6);
        check.is("remove(3)", x.remove(3), 6);
        check.is("remove(0)", x.remove(0), 5);
        check.is("remove(0)", x.remove(0), 8);
        check.is("remove(0)", x.remove(0), 3);
        check.is("components", x.components(), 0);
        check.refused("remove(0) of none", x, Check.INDEX, () -> x.remove(0));
    }

    private static void promise24Move() {
        HotGames x = new HotGames();
        check.is("move(1, 0, 0)", x.move(1, LEFT, 0), 7);
        check.is("component(1)", x.component(1), 7);
        check.is("component(0)", x.component(0), 5);
        check.is("move(1, 1, 0)", x.move(1, RIGHT, 0), 0);
        check.refused("move(1, 1, 0) of a number", x, Check.ARGUMENT, () -> x.move(1, RIGHT, 0));
        x.add(Check.read(x, "{0|1}"));
        check.refused("move(2, 0, 0) of a cold game", x, Check.STATE, () -> x.move(2, LEFT, 0));
        check.refused("move(2, 0, 1) of a cold game", x, Check.ARGUMENT, () -> x.move(2, LEFT, 1));
        check.refused("move(0, 0, 1)", x, Check.ARGUMENT, () -> x.move(0, LEFT, 1));
        check.refused("move(0, 0, -1)", x, Check.ARGUMENT, () -> x.move(0, LEFT, -1));
        check.refused("move(0, 2, 0)", x, Check.ARGUMENT, () -> x.move(0, 2, 0));
        check.refused("move(3, 2, 0)", x, Check.INDEX, () -> x.move(3, 2, 0));
        check.refused("move(-1, 0, 0)", x, Check.INDEX, () -> x.move(-1, LEFT, 0));
        x.add(9);
        check.is("move(3, 0, 1)", x.move(3, LEFT, 1), 3);
        check.is("undo", x.undo(), 5);
        check.is("component(3)", x.component(3), 9);
    }

    private static void promise25Size() {
        HotGames x = new HotGames();
        check.is("size of 5 and 8", x.size(), 3 * 5);
        x.add(3);
        check.is("size with star", x.size(), 3 * 5 * 2);
        x.add(1);
        check.is("size with a number", x.size(), 3 * 5 * 2);
        Check.lay(x);
        check.is("size of nothing", x.size(), 1);
        Check.lay(x, "{0|1}", "up");
        check.is("a cold game is one position", x.size(), 3);
        Check.lay(x, "{{1|2}|-3}");
        check.is("a cold option is one position", x.size(), 3);
    }

    private static void promise26Best() {
        HotGames x = new HotGames();
        check.is("best(0)", x.best(LEFT), 1024);
        check.is("best(1)", x.best(RIGHT), -1024);
        check.refused("best(2)", x, Check.ARGUMENT, () -> x.best(2));
        check.refused("best(-1)", x, Check.ARGUMENT, () -> x.best(-1));
        Check.lay(x);
        check.is("best(0) of nothing", x.best(LEFT), 0);
        Check.lay(x, "3/2", "{0|1}");
        check.is("best(0) of cold games", x.best(LEFT), 2048);
        check.is("best(1) of cold games", x.best(RIGHT), 2048);
        Check.lay(x, "star", "star", "{2|-1}");
        check.is("best(0) of two stars and {2|-1}", x.best(LEFT), 2048);
        check.is("best(1) of two stars and {2|-1}", x.best(RIGHT), -1024);
        Check.lay(x, "star", "{{4|0}|0}");
        check.is("best(0) of star and {{4|0}|0}", x.best(LEFT), 0);
        Check.lay(x, "{{4|0}|0}", "{{4|0}|0}", "star");
        check.is("best(0) of threats", x.best(LEFT), 0);
        Check.lay(x, "+-1", "+-2", "+-3", "+-4");
        check.is("best(0) of four switches", x.best(LEFT), 2048);
        check.is("best(1) of four switches", x.best(RIGHT), -2048);
    }

    private static void promise27Advice() {
        HotGames x = new HotGames();
        Check.lay(x, "1", "{1,3|-1}", "{5|{0|-8},-2}", "{2,6|-7,-6}");
        // left to right: cold; mean 1, temperature 2; between; mean -1/2, temperature 6 1/2
        check.is("advice(0, 0)", x.advice(LEFT, 0), 100);
        check.is("advice(1, 0)", x.advice(RIGHT, 0), 100);
        check.is("advice(0, 1)", x.advice(LEFT, 1), 301);
        check.is("advice(1, 1)", x.advice(RIGHT, 1), 300);
        check.is("advice(0, 2)", x.advice(LEFT, 2), 301);
        check.is("advice(1, 2)", x.advice(RIGHT, 2), 300);
        check.is("advice(0, 3)", x.advice(LEFT, 3), 301);
        check.is("advice(1, 3)", x.advice(RIGHT, 3), 300);
        Check.lay(x, "star", "{4|-4}", "{5|-3}");
        check.is("advice of equal temperatures", x.advice(LEFT, 1), 100);
        check.is("advice of equal gains", x.advice(RIGHT, 2), 100);
        x = new HotGames();
        Check.lay(x, "{0,star|0}", "up");
        check.is("hotstrat takes the first of equal options", x.advice(LEFT, 1), 0);
        check.is("greedy takes the first of equal moves", x.advice(RIGHT, 2), 0);
        check.is("optimal takes the first of equal moves", x.advice(LEFT, 3), 0);
        Check.lay(x, "0", "{|}");
        for (int s = 0; s < 4; s++) {
            check.is("advice of cold games, strategy " + s, x.advice(RIGHT, s), NONE);
        }
        Check.lay(x);
        check.is("advice of nothing", x.advice(LEFT, 3), NONE);
        HotGames y = new HotGames();
        check.refused("advice(2, 0)", y, Check.ARGUMENT, () -> y.advice(2, 0));
        check.refused("advice(-1, 0)", y, Check.ARGUMENT, () -> y.advice(-1, 0));
        check.refused("advice(0, 4)", y, Check.ARGUMENT, () -> y.advice(LEFT, 4));
        check.refused("advice(0, -1)", y, Check.ARGUMENT, () -> y.advice(LEFT, -1));
        // {6|0} has the mean 3, but at the temperature 3/2 of the whole its right wall is 3/2, below 2
        Check.lay(x, "{2,{6|0}|-1}");
        check.is("the temperature of {2,{6|0}|-1}", x.temperature(x.component(0)), 1536);
        check.is("hotstrat looks at the walls", x.advice(LEFT, 1), 0);
        check.is("greedy looks at the means", x.advice(LEFT, 2), 1);
        Check.lay(x, "{1|{0|-6},-2}");
        check.is("hotstrat for Right", x.advice(RIGHT, 1), 1);
        check.is("greedy for Right", x.advice(RIGHT, 2), 0);
        // greedy looks at all moves, hotstrat at the hottest component alone
        Check.lay(x, "{{8|0}|-1}", "{2|0}");
        check.is("hotstrat of equal temperatures", x.advice(LEFT, 1), 0);
        check.is("greedy of gains 4 and 1", x.advice(LEFT, 2), 0);
        check.is("optimal", x.advice(LEFT, 3), 0);
    }

    private static void promise28And29Play() {
        HotGames x = new HotGames();
        check.is("play(0, 3, 3)", x.play(LEFT, 3, 3), 1024);
        check.is("its moves", Check.playedOf(x), "100 0 100");
        check.is("play(1, 3, 0)", x.play(RIGHT, 3, 0), -1024);
        check.is("its moves", Check.playedOf(x), "0 100 100");
        check.is("played(-1)", x.played(-1), NONE);
        check.is("played(3)", x.played(3), NONE);
        check.is("played(max)", x.played(Integer.MAX_VALUE), NONE);
        check.is("the table stays", 10 * x.component(0) + x.component(1), 58);
        check.is("nothing is saved", savedStates(x), 0);
        check.refused("play(2, 0, 0)", x, Check.ARGUMENT, () -> x.play(2, 0, 0));
        check.refused("play(-1, 0, 0)", x, Check.ARGUMENT, () -> x.play(-1, 0, 0));
        check.refused("play(0, 4, 0)", x, Check.ARGUMENT, () -> x.play(LEFT, 4, 0));
        check.refused("play(0, 0, 4)", x, Check.ARGUMENT, () -> x.play(LEFT, 0, 4));
        check.refused("play(0, -1, 0)", x, Check.ARGUMENT, () -> x.play(LEFT, -1, 0));
        check.refused("play(0, 0, -1)", x, Check.ARGUMENT, () -> x.play(LEFT, 0, -1));
        Check.lay(x, "{1|-1}", "{5|-5}");
        check.is("the lowest first", x.play(LEFT, 0, 0), 1024 - 5120);
        check.is("its moves", Check.playedOf(x), "0 100");
        check.is("hotstrat against the lowest", x.play(LEFT, 1, 0), 5120 - 1024);
        check.is("its moves", Check.playedOf(x), "100 0");
        check.is("the lowest against greedy", x.play(RIGHT, 0, 2), -5120 + 1024);
        check.is("the log stays behind a refused play", refusedPlay(x), "100 0");
        Check.lay(x, "1", "{0|1}");
        check.is("play of cold games", x.play(LEFT, 2, 1), 1536);
        check.is("no moves", Check.playedOf(x), "");
        Check.lay(x);
        check.is("play of nothing", x.play(RIGHT, 3, 3), 0);
    }

    private static String refusedPlay(HotGames x) {
        check.refused("play(0, 9, 9)", x, Check.ARGUMENT, () -> x.play(LEFT, 9, 9));
        return Check.playedOf(x);
    }

    private static void promise30And31Text() {
        HotGames x = new HotGames();
        check.is("type(32)", x.type(32), 1);
        check.is("type(126)", x.type(126), 2);
        check.refused("type(31)", x, Check.ARGUMENT, () -> x.type(31));
        check.refused("type(127)", x, Check.ARGUMENT, () -> x.type(127));
        check.refused("type(-1)", x, Check.ARGUMENT, () -> x.type(-1));
        check.refused("type(65536 + 48)", x, Check.ARGUMENT, () -> x.type(65536 + 48));
        check.is("clearText", x.clearText(), 2);
        check.is("clearText again", x.clearText(), 0);
        for (int i = 1; i <= 80; i++) {
            check.is("type the character " + i, x.type(' '), i);
        }
        check.refused("type the character 81", x, Check.STATE, () -> x.type(' '));
        check.refused("type(127) as the character 81", x, Check.ARGUMENT, () -> x.type(127));
        check.is("fault of 80 spaces", x.fault(), 80);
        check.is("clearText of 80", x.clearText(), 80);
    }

    private static void promise32Fault() {
        HotGames x = new HotGames();
        Object[][] due = {
            {"", 0}, {"   ", 3}, {"0", NONE}, {" 0 ", NONE}, {"star", NONE}, {"up", NONE}, {"down", NONE},
            {"stars", 0}, {"sta", 0}, {"starup", 0}, {"star up", 5}, {"Star", 0}, {"sTar", 0}, {"st ar", 0}, {"starz", 0}, {"az", 0},
            {"{", 1}, {"{|", 2}, {"{|}", NONE}, {" { | } ", NONE}, {"{|}}", 3}, {"{}", 1}, {"{||}", 2}, {"{,|}", 1},
            {"{1,|}", 3}, {"{1 2|}", 3}, {"{1|2,}", 5}, {"{1|,2}", 3}, {"{1|2", 4}, {"{1|2|3}", 4}, {"{1,2}", 4},
            {"|", 0}, {"}", 0}, {",", 0}, {"/", 0}, {"!", 0}, {"1!", 1}, {"1 ~", 2}, {"{1|A}", 3}, {"1,2", 1},
            {"{1,2,3,4,5|}", NONE}, {"{star,up|down}", NONE}, {"{{|}|{|}}", NONE}, {"{star|", 6}, {"{star", 5},
            {"+", 1}, {"+-", 2}, {"+-1", NONE}, {"+- 1", NONE}, {"+ -1", 1}, {"+1", 1}, {"++1", 1}, {"+-star", 2},
            {"+--1", 2}, {"+-{|}", 2}, {"+ ", 1}, {"+- ", 3}, {" +x", 2}, {"1+-1", 1}, {"{1|+", 4}, {"{+-1|}", NONE},
            {"-", 1}, {"- ", 2}, {"-1", NONE}, {"- 1", NONE}, {"--1", 1}, {"-star", 1}, {"-{", 1}, {"-+-1", 1},
            {"1-", 1}, {"star-1", 4}, {"{{{{{{{{|}", 10},
        };
        for (Object[] row : due) {
            check.is("the fault of '" + row[0] + "'", Check.faultOf(x, (String) row[0]), (Integer) row[1]);
        }
        check.is("fault is not undoable", savedStates(x), 0);
    }

    private static void promise32FaultOfNumbers() {
        HotGames x = new HotGames();
        Object[][] due = {
            {"8", NONE}, {"-8", NONE}, {"9", 0}, {"-9", 1}, {"+-9", 2}, {"+-8", NONE}, {"10", 0}, {"99 ", 0}, {"{9", 1},
            {"{1|10!", 3}, {"9 9", 0}, {"05", 0}, {"00", 0}, {"-0", NONE}, {"100", 0}, {"100/8", 0}, {"08/2", 0},
            {"1/2", NONE}, {"1 / 2", NONE}, {"2/4", NONE}, {"0/8", NONE}, {"64/8", NONE}, {"65/8", 3}, {"-65/8", 4},
            {"16/2", NONE}, {"17/2", 3}, {"17/ 2", 4}, {"99/8", 3}, {"33/4", 3}, {"32/4", NONE}, {"+-17/2", 5},
            {"1/", 2}, {"1/ ", 3}, {"10/", 3}, {"10/x", 3}, {"1/1", 2}, {"1/3", 2}, {"1/16", 2}, {"1/02", 2}, {"1/22", 2},
            {"1/0", 2}, {"1/-2", 2}, {"1//2", 2}, {"1/2/2", 3}, {"/2", 0}, {"star/2", 4}, {"1/2 2", 4}, {"1 /2|", 4},
            {"{9/2|9/4}", NONE}, {"{9/2|9}", 5}, {"{17/2|9}", 4}, {"1a", 1}, {"1/2a", 3}, {"a1", 0}, {"star1", 4},
        };
        for (Object[] row : due) {
            check.is("the fault of '" + row[0] + "'", Check.faultOf(x, (String) row[0]), (Integer) row[1]);
        }
    }

    private static void promise33Read() {
        HotGames x = new HotGames();
        check.is("read 0", Check.read(x, "0"), 0);
        check.is("read -0/8", Check.read(x, "-0/8"), 0);
        check.is("read 2/2", Check.read(x, "2/2"), 1);
        check.is("the text stays", x.clearText(), 3);
        check.is("read star", Check.read(x, " star"), 3);
        check.is("read +-1", Check.read(x, "+-1"), 5);
        check.is("read +-0 is star", Check.read(x, "+-0"), 3);
        check.is("read {star,0,0,star,0|0} has sets", Check.read(x, "{star,0,0,star,0|0}"), 9);
        check.is("games", x.games(), 10);
        check.is("read down", Check.read(x, "down"), 10);
        check.is("read {3|+-5/2}", Check.read(x, "{3|+-5/2}"), 15);
        check.is("in its order", Check.write(x, 11) + Check.write(x, 12) + Check.write(x, 13), "35/2-5/2");
        check.is("in its order", Check.write(x, 14) + Check.write(x, 15), "{5/2|-5/2}{3|{5/2|-5/2}}");
        check.is("undo takes all of them", x.undo(), 5);
        check.is("games", x.games(), 11);
        Check.type(x, "{3|+-5/2");
        check.refused("read with a fault", x, Check.ARGUMENT, x::read);
        x.clearText();
        check.refused("read nothing", x, Check.ARGUMENT, x::read);
        Check.type(x, "{3,4,5,6,7|}");
        check.refused("read five options", x, Check.STATE, x::read);
        Check.type(x, "{|3,4,5,6,{7|}}");
        check.refused("read five right options", x, Check.STATE, x::read);
        Check.type(x, "{{{{{{{|}|}|}|}|}|}|}");
        check.refused("read depth 7", x, Check.STATE, x::read);
        check.is("read four options", Check.read(x, "{3,4,5,6,6|3,4,5,6}"), 15);
    }

    private static void promise34And35Write() {
        HotGames x = new HotGames();
        String[] due = {"0", "8", "-8", "1/8", "-1/8", "1/2", "-3/4", "63/8", "-63/8", "31/4", "15/2", "-11/2", "7",
            "{|}", "{0|}", "{|0}", "{-1,{0|0}|{|},3/8}"};
        for (String text : due) {
            int game = Check.read(x, text);
            check.is("the length of " + text, x.write(game), text.length());
            check.is("write " + text, Check.writtenOf(x), text);
        }
        check.is("written(-1)", x.written(-1), NONE);
        check.is("written(0)", x.written(0), '{');
        check.is("written(18)", x.written(18), NONE);
        check.is("written(max)", x.written(Integer.MAX_VALUE), NONE);
        check.refused("write(40)", x, Check.INDEX, () -> x.write(40));
        check.refused("write(-1)", x, Check.INDEX, () -> x.write(-1));
        x.undo();
        check.is("the written text stays", Check.writtenOf(x), "{-1,{0|0}|{|},3/8}");
        check.is("a shorter text", x.write(0), 1);
        check.is("is all then", Check.writtenOf(x), "0");
        HotGames y = new HotGames();
        y.write(5);
        check.is("write is not undoable", savedStates(y), 0);
    }

    private static void promise36Undo() {
        HotGames x = new HotGames();
        x.add(0);
        x.remove(0);
        x.move(0, LEFT, 0);
        x.number(5);
        x.make();
        x.negative(8);
        Check.read(x, "up");
        int[] games = {15, 12, 11, 10, 10, 10};
        int[] first = {7, 7, 7, 7, 8, 5};
        for (int k = 0; k < 6; k++) {
            check.is("undo " + k, x.undo(), 5 - k);
            check.is("games behind undo " + k, x.games(), games[k]);
            check.is("component(0) behind undo " + k, x.component(0), first[k]);
        }
        check.is("six states, the seventh is lost", x.components(), 3);
        check.refused("undo of none", x, Check.STATE, x::undo);
        HotGames y = new HotGames();
        y.number(5);
        y.draft(LEFT, 10);
        y.draft(LEFT, 0);
        y.draft(RIGHT, 10);
        y.undo();
        check.is("games that do not exist leave the draft", y.draft(RIGHT, 1), 1);
        check.is("the others stay", y.draft(LEFT, 1), 2);
        y.number(7);
        check.is("numbers are given again", y.value(10), 896);
        check.is("and compared anew", y.compare(10, 1), 2);
        y.type('1');
        y.play(LEFT, 0, 0);
        y.undo();
        check.is("the text stays", y.clearText(), 1);
        check.is("the log stays", Check.playedOf(y), "0 100");
        check.is("the draft stays", y.clearDraft(), 3);
    }

    /** A number of a game that is given again tells nothing of the game that had it before. */
    private static void promise36NumbersAgain() {
        HotGames x = new HotGames();
        String[] texts = {"{1|-1,star}", "{0|1}", "3", "{2,up|-1}", "-3", "{star|}", "{up|0,star}", "5/8"};
        for (String text : texts) {
            HotGames fresh = new HotGames();
            int game = Check.read(x, text);
            check.is(text + " again", game, Check.read(fresh, text));
            for (int g = 0; g <= game; g++) {
                check.is(text + " again, compared", x.compare(game, g), fresh.compare(game, g));
                check.is(text + " again, turned", x.compare(g, game), fresh.compare(g, game));
            }
            check.is(text + " again, cold", x.isCold(game), fresh.isCold(game));
            check.is(text + " again, depth", x.depth(game), fresh.depth(game));
            check.is(text + " again, written", Check.write(x, game), Check.write(fresh, game));
            x.add(game);
            fresh.add(game);
            check.is(text + " again, size", x.size(), fresh.size());
            check.is(text + " again, best", x.best(LEFT), fresh.best(LEFT));
            check.is(text + " again, checksum", x.checksum(), fresh.checksum());
            x.undo();
            x.undo();
        }
    }

    private static void promise37Checksum() {
        HotGames x = new HotGames();
        check.is("checksum of a new object", x.checksum(), -7196537579027698662L);
        long h = x.checksum();
        x.type('1');
        check.is("checksum and text", x.checksum(), checksum(x, 1, 0, 0, 0));
        x.draft(LEFT, 3);
        x.draft(LEFT, 4);
        x.draft(RIGHT, 3);
        check.is("checksum and draft", x.checksum(), checksum(x, 1, 2, 1, 0));
        x.make();
        check.is("checksum and a game", x.checksum(), checksum(x, 1, 0, 0, 1));
        x.add(Check.read(x, "{3/8,{7/2|1}|-5}"));
        check.is("checksum and more", x.checksum(), checksum(x, 16, 0, 0, 3));
        x.clearText();
        x.undo();
        x.undo();
        x.undo();
        check.is("checksum of the first state", x.checksum(), h);
        check.is("checksum twice", x.checksum(), h);
    }

    private static long sum;

    private static void mix(long v) {
        sum = 31 * sum + v;
    }

    private static long checksum(HotGames x, int text, int left, int right, int saved) {
        sum = 18487;
        mix(x.games());
        for (int g = 0; g < x.games(); g++) {
            mix(x.depth(g));
            mix(x.options(g, LEFT));
            mix(x.options(g, RIGHT));
            for (int side = LEFT; side <= RIGHT; side++) {
                for (int i = 0; i < x.options(g, side); i++) {
                    mix(x.option(g, side, i));
                }
            }
            mix(x.mean(g));
            mix(x.temperature(g));
            mix(x.wall(g, LEFT, 0));
            mix(x.wall(g, RIGHT, 0));
        }
        mix(x.components());
        for (int c = 0; c < x.components(); c++) {
            mix(x.component(c));
        }
        mix(text);
        mix(left);
        mix(right);
        mix(saved);
        return sum;
    }
}

import java.lang.management.ManagementFactory;

/** The limits of the document: 40 games, depth 6, size 4000, 400 characters, and the room of a run. */
public final class LimitsTest {
    private static final int LEFT = 0;
    private static final int RIGHT = 1;
    private static final Check check = new Check("limits");

    public static void main(String[] args) {
        fortyGames();
        lastGameOfAReading();
        depthSix();
        sizeFourThousand();
        longestPlay();
        fourHundredCharacters();
        deepBraces();
        manySteps();
        hottestGames();
        allValues();
        room();
        check.end();
    }

    private static HotGames full(int games) {
        HotGames x = new HotGames();
        for (int n = 64; x.games() < games; n--) {
            x.number(n);
        }
        return x;
    }

    private static void fortyGames() {
        HotGames x = full(40);
        check.refused("a new number as game 41", x, Check.STATE, () -> x.number(-64));
        check.refused("a wrong number", x, Check.ARGUMENT, () -> x.number(-65));
        check.is("an old number", x.number(16), 6);
        x.draft(LEFT, 39);
        x.draft(RIGHT, 39);
        check.refused("a new game as game 41", x, Check.STATE, x::make);
        check.is("its draft stays", x.clearDraft(), 2);
        x.draft(LEFT, 0);
        x.draft(RIGHT, 0);
        check.is("an old game", x.make(), 3);
        check.refused("a new negative", x, Check.STATE, () -> x.negative(8));
        check.refused("a new negative of a number", x, Check.STATE, () -> x.negative(39));
        check.refused("no such game", x, Check.INDEX, () -> x.negative(40));
        check.is("an old negative", x.negative(5), 5);
        Check.type(x, "down");
        check.refused("a new game to read", x, Check.STATE, x::read);
        check.is("an old game to read", Check.read(x, "{star,0|0}"), 9);
        check.is("the last game", x.compare(39, 0), 1);
        check.is("add the last game", x.add(39), 3);
        check.refused("draft(0, 40)", x, Check.INDEX, () -> x.draft(LEFT, 40));
    }

    private static void lastGameOfAReading() {
        HotGames x = full(38);
        Check.type(x, "{-3|-4}");
        check.refused("three games where there is room for two", x, Check.STATE, x::read);
        check.refused("three games of a negative", x, Check.STATE, () -> x.negative(8));
        check.is("one of them can be made yet", x.number(-24), 38);
        check.is("and is what it is called", x.value(38), -3072);
        check.is("and the other one", Check.read(x, "-4"), 39);
        check.is("and is what it is called", x.value(39), -4096);
        x.undo();
        check.is("undo at the limit", x.games(), 39);
        check.is("another game as number 39", Check.read(x, "{-3|}"), 39);
        check.is("its value", x.value(39), 0);
        check.is("its comparison", x.compare(39, 0), 0);
    }

    private static void depthSix() {
        HotGames x = new HotGames();
        int g = 3;
        for (int depth = 2; depth <= 6; depth++) {
            x.draft(LEFT, g);
            x.draft(RIGHT, 0);
            g = x.make();
            check.is("depth", x.depth(g), depth);
        }
        int deepest = g;
        x.draft(LEFT, deepest);
        check.refused("depth 7", x, Check.STATE, x::make);
        check.is("its draft stays", x.clearDraft(), 1);
        x.draft(RIGHT, deepest);
        check.refused("depth 7 on the right", x, Check.STATE, x::make);
        check.is("negative of depth 6", x.depth(x.negative(deepest)), 6);
    }

    private static void sizeFourThousand() {
        HotGames x = new HotGames();
        Reference due = new Reference();
        String ten = "{1,2,3,4|-1,-2,-3,{-4|-4}}";
        String[][] tables = {{ten, ten, ten, "{1,2|-1}"}, {ten, "{8,3|-2,-8}", "{{8|0}|-6,{-5|-7}}", "{{4|1}|-7}"}};
        for (String[] texts : tables) {
            Check.lay(x, texts);
            lay(due, texts);
            check.is("size", x.size(), due.size());
            for (int first = 0; first < 2; first++) {
                check.is("best", x.best(first), due.best(first));
                check.is("advice", x.advice(first, 3), due.advice(first, 3));
                for (int k = 0; k < 16; k++) {
                    check.is("play", x.play(first, k / 4, k % 4), due.play(first, k / 4, k % 4));
                }
            }
        }
        Check.lay(x, tables[0]);
        check.is("size 4000", x.size(), 4000);
        String[] large = {ten, "{1,2,3,4|-1,-2,-3,-4}", "{1,2,3,4|-1,-2,-3,-4}", "{1,2|-1,-2}"};
        Check.lay(x, large);
        lay(due, large);
        check.is("size 4050", x.size(), 4050);
        for (int p = 0; p < 2; p++) {
            int player = p;
            check.refused("best of size 4050", x, Check.STATE, () -> x.best(player));
            check.refused("advice of size 4050", x, Check.STATE, () -> x.advice(player, 3));
            check.refused("play of size 4050", x, Check.STATE, () -> x.play(player, 3, 1));
            check.refused("play of size 4050", x, Check.STATE, () -> x.play(player, 2, 3));
            check.refused("best of a wrong player", x, Check.ARGUMENT, () -> x.best(2 + player));
            check.refused("play of a wrong strategy", x, Check.ARGUMENT, () -> x.play(player, 3, 4));
            check.refused("advice of a wrong player", x, Check.ARGUMENT, () -> x.advice(2 + player, 3));
        }
        check.is("other strategies play on", x.play(LEFT, 1, 2), due.play(LEFT, 1, 2));
        check.is("other strategies advise", x.advice(LEFT, 2), 3);
    }

    private static void lay(Reference due, String... texts) {
        while (due.components() > 0) {
            due.remove(0);
        }
        for (String text : texts) {
            due.clearText();
            for (int i = 0; i < text.length(); i++) {
                due.type(text.charAt(i));
            }
            due.add(due.read());
        }
    }

    /** Every option 0 is the next lower game, so the lowest moves are the longest play. */
    private static void longestPlay() {
        HotGames x = new HotGames();
        int g = 3;
        for (int depth = 2; depth <= 6; depth++) {
            int zero = Check.read(x, "{-" + depth + "|" + depth + "}");
            for (int side = LEFT; side <= RIGHT; side++) {
                x.draft(side, g);
                x.draft(side, zero);
            }
            g = x.make();
        }
        Check.lay(x);
        for (int c = 0; c < 4; c++) {
            x.add(g);
        }
        check.is("size of the longest play", x.size(), 12 * 12 * 12 * 12);
        check.is("the longest play", x.play(LEFT, 0, 0), 0);
        check.is("its last move", x.played(23), 300);
        check.is("no move 24", x.played(24), HotGames.NONE);
        check.refused("an optimal play of this size", x, Check.STATE, () -> x.play(LEFT, 0, 3));
        x.remove(3);
        check.is("an optimal play", x.play(RIGHT, 3, 3), x.best(RIGHT));
    }

    private static void fourHundredCharacters() {
        HotGames x = new HotGames();
        String first = "{1/2,3/2,5/2,7/2|}";
        String second = "{1/2,3/2,5/2,7/2|1,2,3,-4}";
        Check.read(x, first);
        Check.read(x, second);
        int plain = Check.read(x, "{" + first + "|" + second + "}");
        int[] parts = new int[8];
        String[] last = {"0", "1", "2", "3", "4", "5", "-1", "-2"};
        for (int k = 0; k < 8; k++) {
            parts[k] = Check.read(x, "{" + first + "|" + second + "," + last[k] + "}");
        }
        int fits = eight(x, plain, parts[0], parts[1], parts[2], parts[3], parts[4], parts[5], parts[6]);
        int tooLong = eight(x, plain, parts[0], parts[1], parts[2], parts[3], parts[4], parts[7], parts[6]);
        check.is("write 400 characters", x.write(fits), 400);
        check.is("the last of them", x.written(399), '}');
        check.is("none behind it", x.written(400), HotGames.NONE);
        String kept = Check.writtenOf(x);
        check.is("how many are kept", kept.length(), 400);
        check.refused("write 401 characters", x, Check.STATE, () -> x.write(tooLong));
        check.is("the written text stays", Check.writtenOf(x), kept);
        x.draft(LEFT, tooLong);
        x.draft(RIGHT, fits);
        int longer = x.make();
        check.refused("write 804 characters", x, Check.STATE, () -> x.write(longer));
    }

    private static int eight(HotGames x, int... options) {
        for (int k = 0; k < 8; k++) {
            x.draft(k / 4, options[k]);
        }
        return x.make();
    }

    private static void deepBraces() {
        HotGames x = new HotGames();
        check.is("80 open braces", Check.faultOf(x, "{".repeat(80)), 80);
        check.is("79 open braces and a bar", Check.faultOf(x, "{".repeat(79) + "|"), 80);
        check.is("40 bars", Check.faultOf(x, "{|".repeat(40)), 80);
        check.is("26 games in one another", Check.faultOf(x, "{".repeat(26) + "1|}" + "|}".repeat(25)), HotGames.NONE);
        check.refused("and their depth", x, Check.STATE, x::read);
        check.is("26 on the right", Check.faultOf(x, "{|".repeat(26) + "}".repeat(26)), HotGames.NONE);
        check.is("one brace too many", Check.faultOf(x, "{|".repeat(26) + "}".repeat(27)), 78);
        check.is("80 digits", Check.faultOf(x, "1".repeat(80)), 0);
        check.is("80 letters", Check.faultOf(x, "a".repeat(80)), 0);
        check.is("a number at the end", Check.faultOf(x, " ".repeat(79) + "8"), HotGames.NONE);
        check.is("a bad number at the end", Check.faultOf(x, " ".repeat(79) + "9"), 79);
        check.is("a plus at the end", Check.faultOf(x, " ".repeat(79) + "+"), 80);
    }

    private static void manySteps() {
        HotGames x = new HotGames();
        check.is("many names", Check.read(x, "{up" + ",up".repeat(25) + "|}"), 10);
        check.is("its options", x.options(10, LEFT), 1);
        check.is("80 signs of names", Check.read(x, "{" + "up,".repeat(25) + "up|}"), 10);
        check.is("many switches", Check.read(x, "{+-1" + ",+-1".repeat(18) + "|}"), 11);
        check.is("the option", x.option(11, LEFT, 0), 5);
    }

    private static void hottestGames() {
        HotGames x = new HotGames();
        int high = Check.read(x, "{{{{{8|}|}|}|}|}");
        int low = Check.read(x, "{|{|{|{|{|-8}}}}}");
        check.is("the greatest value of depth 5", x.value(high), 13 * 1024);
        x.draft(LEFT, high);
        x.draft(RIGHT, low);
        int g = x.make();
        check.is("the hottest game", x.temperature(g), 13 * 1024);
        check.is("its corner", x.corner(g, LEFT, 1), 13 * 1024);
        check.is("its last corner", x.corner(g, LEFT, 2), HotGames.NONE);
        check.is("its wall", x.wall(g, RIGHT, 13 * 1024 - 1), -1);
        check.is("its wall at the end", x.wall(g, RIGHT, 100000), 0);
        Check.lay(x);
        for (int c = 0; c < 4; c++) {
            x.add(g);
        }
        check.is("four of them", x.best(LEFT), 0);
    }

    /** All numbers of eighths are what they are called and lie in order. */
    private static void allValues() {
        for (int n = -64; n < 64; n++) {
            HotGames x = new HotGames();
            int one = x.number(n);
            int next = x.number(n + 1);
            check.is("value of " + n, x.value(one), 128 * n);
            check.is("compare " + n, x.compare(one, next), 2);
            x.draft(LEFT, one);
            x.draft(RIGHT, next);
            check.is("between " + n, x.value(x.make()), 128 * n + 64);
            String text = Check.write(x, one);
            check.is("read " + text, Check.read(x, text), one);
        }
    }

    /** A run of the dearest calls may not fill the room with rows that are made again and again. */
    private static void room() {
        com.sun.management.ThreadMXBean bean = (com.sun.management.ThreadMXBean) ManagementFactory.getThreadMXBean();
        long id = Thread.currentThread().getId();
        HotGames x = new HotGames();
        String ten = "{1,2,3,4|-1,-2,-3,{-4|-4}}";
        Check.lay(x, ten, ten, ten, "{1,2|-1}");
        x.best(LEFT);
        long before = bean.getThreadAllocatedBytes(id);
        for (int k = 0; k < 50; k++) {
            x.best(k % 2);
            x.play(k % 2, 3, 3);
            x.advice(k % 2, 1);
            x.corner(x.component(0), LEFT, 5);
            x.checksum();
            x.fault();
            x.number(k % 8);
            x.negative(8);
            x.undo();
        }
        long used = bean.getThreadAllocatedBytes(id) - before;
        if (used > 100000) {
            check.tell("450 calls took " + used + " bytes");
        }
    }
}

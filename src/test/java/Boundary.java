import java.io.IOException;
import java.nio.file.Files;
import java.nio.file.Path;
import java.util.ArrayList;
import java.util.List;

/**
 * Holds the document's sentences beside the calls that try their bounds. Every sentence is quoted word
 * for word; a refused call is made on one of two like objects, which have to stay alike in all they answer.
 */
final class Boundary {
    static final int NONE = HotGames.NONE;
    static final int LEFT = 0;
    static final int RIGHT = 1;
    static final int MIN = Integer.MIN_VALUE;
    static final int MAX = Integer.MAX_VALUE;
    static final Path DOCUMENT = Path.of("..", "shared", "DOC.md");
    /** What is neither 0 nor 1: the neighbours, the ends of int, and what wraps to 0 or 1. */
    static final int[] NO_SIDES = {-1, 2, 3, 32, 64, 256, 65536, MIN, MIN + 1, MAX};
    static final Setup NEW = x -> { };

    interface Setup {
        void on(HotGames x);
    }

    interface Call {
        Object on(HotGames x);
    }

    interface IntCall {
        Object on(HotGames x, int argument);
    }

    private final Check check;
    private final List<String> quotes = new ArrayList<>();
    private String place = "";

    Boundary(Check check) {
        this.check = check;
    }

    // ---- sentences

    /** The tests that follow belong to these words of a promise, or of the terms if it is 0. */
    void sentence(int promise, String words) {
        quotes.add(promise + ": " + words);
        place = (promise == 0 ? "terms" : "promise " + promise) + ", '" + words + "': ";
    }

    /** Every quote has to stand in its section, and every sentence on exceptions and NONE has to be quoted. */
    void allQuoted() throws IOException {
        place = "";
        if (!Files.exists(DOCUMENT)) {
            System.out.println("boundaries: there is no " + DOCUMENT + ", the quotes are not looked up");
            return;
        }
        String[] sections = Files.readString(DOCUMENT).split("\n## Promise \\d+: ");
        check.is("sections of the document", sections.length, 38);
        for (String quote : quotes) {
            int colon = quote.indexOf(": ");
            String section = sections[Integer.parseInt(quote.substring(0, colon))];
            check.is("the document says '" + quote + "'", section.contains(quote.substring(colon + 2)), true);
        }
        for (int promise = 1; promise < sections.length; promise++) {
            for (String line : sections[promise].split("\n")) {
                if (line.startsWith("Throws ") || line.startsWith("Returns ") && line.contains("NONE")) {
                    check.is("a test of promise " + promise + ", '" + line + "'",
                        quotes.contains(promise + ": " + line), true);
                }
            }
        }
    }

    // ---- answers

    void is(String call, long got, long want) {
        check.is(place + call, got, want);
    }

    void is(String call, boolean got, boolean want) {
        check.is(place + call, got, want);
    }

    void is(String call, String got, String want) {
        check.is(place + call, got, want);
    }

    static HotGames made(Setup setup) {
        HotGames x = new HotGames();
        setup.on(x);
        return x;
    }

    /** Numbers that are no games yet, from 8 downwards, until there are so many games. */
    static Setup full(int games) {
        return x -> {
            for (int n = 64; x.games() < games; n--) {
                x.number(n);
            }
        };
    }

    static Setup typed(String text) {
        return x -> Check.type(x, text);
    }

    static Setup both(Setup one, Setup other) {
        return x -> {
            one.on(x);
            other.on(x);
        };
    }

    // ---- refused calls

    void refused(String call, Class<?> due, Call made) {
        refused(call, due, NEW, made);
    }

    /** The call has to throw just this exception, and what was so before has to be so behind it. */
    void refused(String call, Class<?> due, Setup setup, Call made) {
        is(call, outcome(made(setup), made), due.getSimpleName());
        for (int probe = 0; probe < 6; probe++) {
            HotGames hit = made(setup);
            outcome(hit, made);
            is(call + " changes nothing", answers(hit, probe), answers(made(setup), probe));
        }
    }

    /** Tries an argument that is a side. */
    void sideRefused(String call, Setup setup, IntCall made) {
        for (int side = LEFT; side <= RIGHT; side++) {
            int good = side;
            is(call + " takes side " + good, throwsNothing(setup, x -> made.on(x, good)), true);
        }
        for (int side : NO_SIDES) {
            refused(call + " with side " + side, Check.ARGUMENT, setup, x -> made.on(x, side));
        }
    }

    /** Tries an argument that is a game, where there are so many games as the set-up makes. */
    void gameRefused(String call, Setup setup, IntCall made) {
        int games = made(setup).games();
        is(call + " takes game 0", throwsNothing(setup, x -> made.on(x, 0)), true);
        is(call + " takes the last game", throwsNothing(setup, x -> made.on(x, games - 1)), true);
        for (int game : new int[] {-1, games, 40, 63, 64, 64 + games - 1, 256, 65536, MIN, MIN + 1, MAX}) {
            refused(call + " with game " + game, Check.INDEX, setup, x -> made.on(x, game));
        }
    }

    /** A game that an undo has taken is no game any more; a game that is number 39 is one. */
    void vanishedGameRefused(String call, IntCall made) {
        Setup vanished = x -> {
            x.number(5);
            x.undo();
        };
        refused(call + " with a game that is undone", Check.INDEX, vanished, x -> made.on(x, 10));
        is(call + " takes game 39", throwsNothing(full(40), x -> made.on(x, 39)), true);
        refused(call + " with game 40", Check.INDEX, full(40), x -> made.on(x, 40));
    }

    /** Tries an argument that is a component of a table with so many components. */
    void componentRefused(String call, Setup setup, IntCall made) {
        int components = made(setup).components();
        for (int c = 0; c < components; c++) {
            int good = c;
            is(call + " takes component " + c, throwsNothing(setup, x -> made.on(x, good)), true);
        }
        for (int c : new int[] {-1, components, components + 1, 5, 256, 65536, MIN, MAX}) {
            refused(call + " with component " + c, Check.INDEX, setup, x -> made.on(x, c));
        }
    }

    static boolean throwsNothing(Setup setup, Call call) {
        return !outcome(made(setup), call).endsWith("Exception");
    }

    static String outcome(HotGames x, Call call) {
        try {
            return String.valueOf(call.on(x));
        } catch (RuntimeException e) {
            return e.getClass().getSimpleName();
        }
    }

    /** What an object answers; each probe has an object of its own, so that it may change it. */
    private static String answers(HotGames x, int probe) {
        switch (probe) {
            case 0:
                return state(x);
            case 1:
                return Check.writtenOf(x);
            case 2:
                return Check.playedOf(x);
            case 3:
                return draft(x);
            case 4:
                return undone(x);
            default:
                return grown(x);
        }
    }

    private static String state(HotGames x) {
        StringBuilder all = new StringBuilder();
        all.append(x.checksum()).append(' ').append(x.games());
        all.append(' ').append(x.fault()).append(' ').append(x.size());
        for (int c = 0; c < x.components(); c++) {
            all.append(' ').append(x.component(c));
        }
        return all.toString();
    }

    /** An option that the draft has already is counted once, so the answers tell the draft. */
    private static String draft(HotGames x) {
        StringBuilder all = new StringBuilder();
        for (int side = LEFT; side <= RIGHT; side++) {
            for (int g = 0; g < x.games(); g++) {
                int at = side;
                int game = g;
                all.append(outcome(x, y -> y.draft(at, game))).append(' ');
            }
        }
        return all.toString();
    }

    private static String undone(HotGames x) {
        StringBuilder all = new StringBuilder();
        for (int k = 0; k < 7; k++) {
            all.append(outcome(x, HotGames::undo)).append(' ').append(state(x)).append("; ");
        }
        return all.toString();
    }

    /** What is half made by a refused call would show in games that are made behind it. */
    private static String grown(HotGames x) {
        StringBuilder all = new StringBuilder();
        int from = x.games();
        all.append(outcome(x, HotGames::read)).append(' ');
        all.append(outcome(x, y -> y.number(-37))).append(' ');
        all.append(outcome(x, y -> y.number(19))).append(' ');
        all.append(outcome(x, HotGames::make)).append(' ');
        all.append(outcome(x, y -> y.negative(8))).append(' ');
        for (int g = from; g < Math.min(x.games(), from + 4); g++) {
            for (int h = 0; h < x.games(); h++) {
                all.append(x.compare(g, h));
            }
            all.append(x.isCold(g)).append(x.depth(g)).append(x.corner(g, LEFT, 1)).append(' ');
        }
        all.append(outcome(x, y -> y.best(LEFT))).append(' ').append(outcome(x, y -> y.best(RIGHT))).append(' ');
        return all.append(state(x)).toString();
    }
}

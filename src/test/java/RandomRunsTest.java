import java.lang.reflect.InvocationTargetException;
import java.lang.reflect.Method;
import java.util.ArrayList;
import java.util.HashMap;
import java.util.List;
import java.util.Map;
import java.util.Random;
import java.util.TreeMap;

/**
 * Long runs of random calls, each made on HotGames and on the Reference, with a fixed seed: answers
 * and exceptions have to be the same, and so does the checksum. Arguments: runs, first seed.
 */
public final class RandomRunsTest {
    private static final int CALLS = 512;
    private static final int[] EXTREMES = {Integer.MIN_VALUE, Integer.MAX_VALUE, -1, 40, 64, 1 << 16, 1 << 30};
    private static final Map<String, Method[]> METHODS = new HashMap<>();
    private static final Map<String, Integer> SEEN = new TreeMap<>();
    private static int wrong = 0;
    private static int mostCorners = 0;

    private final Random random;
    private final HotGames real = new HotGames();
    private final Reference due = new Reference();
    private final long seed;
    private final int taste;
    private final List<String> calls = new ArrayList<>();
    private boolean failed = false;
    private int limit = CALLS;

    private RandomRunsTest(long seed) {
        this.seed = seed;
        this.random = new Random(seed);
        this.taste = (int) (seed % 4);
    }

    public static void main(String[] args) {
        int runs = args.length > 0 ? Integer.parseInt(args[0]) : 400;
        long first = args.length > 1 ? Long.parseLong(args[1]) : 1;
        for (Method m : HotGames.class.getDeclaredMethods()) {
            if (java.lang.reflect.Modifier.isPublic(m.getModifiers())) {
                METHODS.put(m.getName(), new Method[] {m, twin(m)});
            }
        }
        for (long seed = first; seed < first + runs && wrong < 5; seed++) {
            new RandomRunsTest(seed).run();
        }
        if (args.length > 2) {
            SEEN.forEach((k, v) -> System.out.println(k + " " + v));
            System.out.println("most corners of a wall: " + mostCorners);
        }
        System.out.println(wrong == 0 ? "random runs: all answers are as due" : "random runs: " + wrong + " wrong");
        if (wrong != 0) {
            System.exit(1);
        }
    }

    private static Method twin(Method m) {
        try {
            return Reference.class.getMethod(m.getName(), m.getParameterTypes());
        } catch (NoSuchMethodException e) {
            throw new IllegalStateException(m.getName());
        }
    }

    private void run() {
        while (calls.size() < CALLS && !failed) {
            step();
        }
        audit();
    }

    /** Asks for all that is told of all games; HotGames does not mind more than 512 calls. */
    private void audit() {
        limit = Integer.MAX_VALUE;
        for (int g = 0; g < due.games() && !failed; g++) {
            call("write", g);
            call("isCold", g);
            for (int h = 0; h < due.games(); h++) {
                call("compare", g, h);
            }
            for (int side = 0; side < 2; side++) {
                auditSide(g, side);
            }
        }
        for (int first = 0; first < 2; first++) {
            for (int strategy = 0; strategy < 16; strategy++) {
                call("advice", first, strategy / 4);
                call("play", first, strategy / 4, strategy % 4);
            }
        }
    }

    private void auditSide(int g, int side) {
        for (int i = 0; i < due.options(g, side); i++) {
            call("dominated", g, side, i);
            call("reversible", g, side, i);
        }
        call("wall", g, side, below(8000));
        int corner = 0;
        for (int i = 0; corner != HotGames.NONE && !failed; i++) {
            call("corner", g, side, i);
            corner = due.corner(g, side, i);
            mostCorners = Math.max(mostCorners, i);
        }
    }

    private int below(int n) {
        return random.nextInt(n);
    }

    private boolean chance(int percent) {
        return below(100) < percent;
    }

    private void step() {
        if (due.games() > 37 && chance(15)) {
            for (int k = 1 + below(6); k > 0; k--) {
                call("undo");
            }
        }
        int what = below(100);
        if (what < 29) {
            buildSomething();
        } else if (what < (taste == 1 ? 39 : 30)) {
            typeSomething();
        } else if (what < 70) {
            ask();
        } else if (what < 90) {
            useTable();
        } else if (what < 94) {
            call("undo");
        } else {
            call("checksum");
        }
    }

    private void buildSomething() {
        switch (below(taste == 0 ? 6 : 10)) {
            case 0:
                call("number", chance(5) ? below(400) - 200 : below(131) - 65);
                break;
            case 1:
                call("negative", game());
                break;
            case 2:
                call("draft", side(), game());
                break;
            case 3:
                call(chance(10) ? "clearDraft" : "make");
                break;
            default:
                draftWhole();
                call("make");
        }
    }

    /** Mostly drafts with great left and small right options, which are hot more often. */
    private void draftWhole() {
        boolean hot = chance(75);
        if (chance(80)) {
            call("clearDraft");
        }
        for (int side = 0; side < 2; side++) {
            int n = hot ? 1 + below(3) : below(5);
            for (int k = 0; k < n; k++) {
                int g = below(due.games());
                for (int tries = 0; hot && tries < 3; tries++) {
                    int other = below(due.games());
                    boolean better = side == 0 ? due.mean(other) > due.mean(g) : due.mean(other) < due.mean(g);
                    boolean deeper = taste == 2 && due.depth(other) > due.depth(g);
                    g = better || deeper ? other : g;
                }
                call("draft", side, g);
            }
        }
    }

    private void typeSomething() {
        if (chance(85)) {
            call("clearText");
        }
        StringBuilder text = new StringBuilder();
        notation(text, 0);
        int damages = chance(50) ? 0 : 1 + below(2);
        for (int k = 0; k < damages && text.length() > 0; k++) {
            damage(text);
        }
        for (int i = 0; i < text.length() && i < 85; i++) {
            call("type", text.charAt(i));
        }
        call("fault");
        if (chance(70)) {
            call("read");
        }
        if (chance(3)) {
            call("type", below(400) - 100);
        }
    }

    private void space(StringBuilder text) {
        if (chance(8)) {
            text.append(chance(80) ? " " : "  ");
        }
    }

    private void notation(StringBuilder text, int level) {
        space(text);
        int what = below(level > 5 ? 6 : 11);
        if (what == 0) {
            text.append(chance(40) ? "star" : chance(50) ? "up" : "down");
        } else if (what == 1) {
            text.append("+-");
            positive(text);
        } else if (what < 6) {
            text.append(chance(40) ? "-" : "");
            positive(text);
        } else {
            text.append('{');
            list(text, level);
            text.append('|');
            list(text, level);
            text.append('}');
        }
        space(text);
    }

    private void list(StringBuilder text, int level) {
        int n = chance(70) ? 1 : chance(3) ? 6 : below(4);
        for (int k = 0; k < n; k++) {
            text.append(k > 0 ? "," : "");
            notation(text, level + 1);
        }
    }

    private void positive(StringBuilder text) {
        space(text);
        boolean fraction = chance(40);
        text.append(fraction ? below(chance(20) ? 70 : 20) : below(chance(8) ? 11 : 9));
        if (fraction) {
            space(text);
            text.append('/');
            space(text);
            text.append(chance(95) ? 2 << below(3) : below(20));
        }
    }

    private void damage(StringBuilder text) {
        String signs = "{}|,+-/ 0123456789 stardownup {|}A!~";
        int i = below(text.length());
        char c = signs.charAt(below(signs.length()));
        switch (below(4)) {
            case 0:
                text.insert(i, c);
                break;
            case 1:
                text.deleteCharAt(i);
                break;
            case 2:
                text.setCharAt(i, c);
                break;
            default:
                text.setLength(i);
        }
    }

    private void ask() {
        switch (below(18)) {
            case 0:
                call("games");
                break;
            case 1:
                call("options", game(), side());
                break;
            case 2:
                call("option", game(), side(), index());
                break;
            case 3:
                call("depth", game());
                break;
            case 4:
            case 5:
                call("compare", game(), game());
                break;
            case 6:
                call("isCold", game());
                break;
            case 7:
                call("value", game());
                break;
            case 8:
            case 9:
                call("dominated", game(), side(), index());
                break;
            case 10:
            case 11:
                call("reversible", game(), side(), index());
                break;
            case 12:
                call(chance(50) ? "mean" : "temperature", game());
                break;
            case 13:
                call("wall", game(), side(), chance(5) ? below(200000) - 50000 : below(chance(50) ? 4000 : 12000));
                break;
            case 14:
            case 15:
                call("corner", game(), side(), below(6) - (chance(5) ? 1 : 0));
                break;
            case 16:
                call("write", game());
                break;
            default:
                call("written", below(chance(30) ? 405 : 30) - 1);
        }
    }

    private void useTable() {
        int c = below(due.components() + 1) - (chance(3) ? 1 : 0);
        switch (below(10)) {
            case 0:
            case 1:
                call("add", game());
                break;
            case 2:
                call(chance(50) ? "remove" : "component", c);
                break;
            case 3:
                call("move", c, side(), index());
                break;
            case 4:
                call(chance(50) ? "components" : "size");
                break;
            case 5:
                call("best", side());
                break;
            case 6:
            case 7:
                call("advice", side(), below(4) + (chance(3) ? below(5) - 2 : 0));
                break;
            case 8:
                call("play", side(), below(4), chance(3) ? below(9) - 3 : below(4));
                break;
            default:
                for (int k = -1; k < 10; k++) {
                    call("played", k);
                }
        }
    }

    /** Mostly one of all games; some runs like the latest ones, which are the deepest. */
    private int game() {
        int count = due.games();
        if (taste == 2 && count > 12 && chance(60)) {
            return count - 1 - below(count - 10);
        }
        return chance(3) ? below(60) - 10 : below(count);
    }

    private int side() {
        return chance(2) ? below(5) - 2 : below(2);
    }

    private int index() {
        return chance(5) ? below(9) - 3 : below(3);
    }

    private void call(String name, int... args) {
        if (failed || calls.size() >= limit) {
            return;
        }
        if (args.length > 0 && limit == CALLS && chance(1)) {
            args[below(args.length)] = EXTREMES[below(EXTREMES.length)];
        }
        Object[] boxed = new Object[args.length];
        StringBuilder shown = new StringBuilder(name);
        for (int i = 0; i < args.length; i++) {
            boxed[i] = args[i];
            shown.append(' ').append(args[i]);
        }
        Method[] pair = METHODS.get(name);
        Object got = answer(pair[0], real, boxed);
        Object want = answer(pair[1], due, boxed);
        calls.add(shown + " -> " + got);
        SEEN.merge(name + (want instanceof String ? " " + want : ""), 1, Integer::sum);
        boolean sums = limit == CALLS;
        long sum = sums ? real.checksum() : 0;
        long sumDue = sums ? due.checksum() : 0;
        if (!got.equals(want) || sum != sumDue) {
            failed = true;
            wrong++;
            System.out.println("seed " + seed + ", call " + calls.size() + ": " + shown + " answered " + got
                + ", due is " + want + (sum == sumDue ? "" : "; the checksums differ"));
        }
    }

    private static Object answer(Method m, Object on, Object[] args) {
        try {
            return m.invoke(on, args);
        } catch (InvocationTargetException e) {
            Class<?> thrown = e.getCause().getClass();
            if (thrown == AssertionError.class) {
                throw new IllegalStateException(e.getCause());
            }
            return "throws " + thrown.getSimpleName();
        } catch (IllegalAccessException e) {
            throw new IllegalStateException(e);
        }
    }
}

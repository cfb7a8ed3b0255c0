import java.util.ArrayList;
import java.util.Arrays;
import java.util.HashMap;
import java.util.HashSet;
import java.util.List;
import java.util.Map;
import java.util.Set;
import java.util.TreeSet;

/**
 * The document once more, word for word and slowly: comparisons by their recursive definition,
 * walls as tables over all t, scores by trying all moves. The random test holds HotGames against it.
 */
public final class Reference {
    private static final int NONE = -1;
    private static final int POINTS = 16 * 1024 + 1;

    /** Something that can be compared: a game, or a number that need not be a game. */
    private static final class Node {
        final int id;
        final List<Node> left = new ArrayList<>();
        final List<Node> right = new ArrayList<>();

        Node(int id) {
            this.id = id;
        }
    }

    private static final class G {
        Integer eighths; // null if composed
        TreeSet<Integer> left = new TreeSet<>();
        TreeSet<Integer> right = new TreeSet<>();
        Node node;
        Integer value; // null if hot
        int mean;
        int temperature = NONE;
        int[][] walls; // null if cold

        TreeSet<Integer> side(int side) {
            return side == 0 ? left : right;
        }
    }

    private static final class Fault extends RuntimeException {
        private static final long serialVersionUID = 1L;
        final int index;

        Fault(int index) {
            this.index = index;
        }
    }

    private static final class Tree {
        Integer eighths; // null if composed
        List<Tree> left = new ArrayList<>();
        List<Tree> right = new ArrayList<>();
    }

    private final List<G> games = new ArrayList<>();
    private final List<Integer> table = new ArrayList<>();
    private final TreeSet<Integer> draftLeft = new TreeSet<>();
    private final TreeSet<Integer> draftRight = new TreeSet<>();
    private final List<int[]> saved = new ArrayList<>();
    private final List<Integer> log = new ArrayList<>();
    private final StringBuilder text = new StringBuilder();
    private String written = "";
    private final Map<Integer, Node> numbers = new HashMap<>();
    private final Map<Long, Boolean> known = new HashMap<>();
    private final Map<List<Integer>, Integer> scores = new HashMap<>();
    private int nodes = 0;
    private int at;

    public Reference() {
        for (String s : new String[] {"0", "1", "-1", "star", "up", "{1|-1}", "2", "{2|0}", "{{2|0}|-1}", "{0,star|0}"}) {
            text.append(s);
            read();
            text.setLength(0);
        }
        saved.clear();
        table.add(5);
        table.add(8);
    }

    public int games() {
        return games.size();
    }

    public int number(int eighths) {
        if (eighths < -64 || eighths > 64) {
            throw new IllegalArgumentException();
        }
        int[] before = state();
        int made = makeNumber(eighths);
        save(before);
        return made;
    }

    public int draft(int side, int game) {
        checkGame(game);
        checkSide(side);
        TreeSet<Integer> set = side == 0 ? draftLeft : draftRight;
        if (!set.contains(game) && set.size() == 4) {
            throw new IllegalStateException();
        }
        set.add(game);
        return set.size();
    }

    public int clearDraft() {
        int had = draftLeft.size() + draftRight.size();
        draftLeft.clear();
        draftRight.clear();
        return had;
    }

    public int make() {
        int[] before = state();
        int made = compose(new TreeSet<>(draftLeft), new TreeSet<>(draftRight));
        clearDraft();
        save(before);
        return made;
    }

    public int negative(int game) {
        checkGame(game);
        int[] before = state();
        Map<Integer, Integer> minus = new HashMap<>();
        try {
            for (int g : partsOf(game)) {
                minus.put(g, negateOne(games.get(g), minus));
            }
        } catch (IllegalStateException e) {
            cut(before[0]);
            throw e;
        }
        save(before);
        return minus.get(game);
    }

    private int negateOne(G g, Map<Integer, Integer> minus) {
        if (g.eighths != null) {
            return makeNumber(-g.eighths);
        }
        TreeSet<Integer> left = new TreeSet<>();
        TreeSet<Integer> right = new TreeSet<>();
        for (int r : g.right) {
            left.add(minus.get(r));
        }
        for (int l : g.left) {
            right.add(minus.get(l));
        }
        return compose(left, right);
    }

    private TreeSet<Integer> partsOf(int game) {
        TreeSet<Integer> parts = new TreeSet<>();
        parts.add(game);
        for (int side = 0; side < 2; side++) {
            for (int o : games.get(game).side(side)) {
                parts.addAll(partsOf(o));
            }
        }
        return parts;
    }

    public int options(int game, int side) {
        checkGame(game);
        checkSide(side);
        return games.get(game).side(side).size();
    }

    public int option(int game, int side, int i) {
        checkGame(game);
        checkSide(side);
        List<Integer> all = new ArrayList<>(games.get(game).side(side));
        return i < 0 || i >= all.size() ? NONE : all.get(i);
    }

    public int depth(int game) {
        checkGame(game);
        return depthOf(games.get(game));
    }

    private int depthOf(G g) {
        if (g.eighths != null) {
            return 0;
        }
        int most = 0;
        for (int side = 0; side < 2; side++) {
            for (int o : g.side(side)) {
                most = Math.max(most, depthOf(games.get(o)));
            }
        }
        return most + 1;
    }

    public int compare(int one, int other) {
        checkGame(one);
        checkGame(other);
        boolean up = ge(games.get(one).node, games.get(other).node);
        boolean down = ge(games.get(other).node, games.get(one).node);
        return up && down ? 0 : up ? 1 : down ? 2 : 3;
    }

    public boolean isCold(int game) {
        checkGame(game);
        return games.get(game).value != null;
    }

    public int value(int game) {
        checkGame(game);
        if (!isCold(game)) {
            throw new IllegalStateException();
        }
        return games.get(game).value;
    }

    public int dominated(int game, int side, int i) {
        checkGame(game);
        checkSide(side);
        int mine = option(game, side, i);
        if (mine == NONE) {
            return NONE;
        }
        for (int j = 0; j < options(game, side); j++) {
            int c = compare(option(game, side, j), mine);
            boolean better = side == 0 ? c == 1 : c == 2;
            if (j != i && (better || c == 0 && j < i)) {
                return j;
            }
        }
        return NONE;
    }

    public int reversible(int game, int side, int i) {
        checkGame(game);
        checkSide(side);
        int mine = option(game, side, i);
        if (mine == NONE) {
            return NONE;
        }
        Node whole = games.get(game).node;
        Node part = games.get(mine).node;
        for (Node n : side == 0 ? part.right : part.left) {
            if (side == 0 ? ge(whole, n) : ge(n, whole)) {
                return 1;
            }
        }
        return 0;
    }

    public int mean(int game) {
        checkGame(game);
        return games.get(game).mean;
    }

    public int temperature(int game) {
        checkGame(game);
        return games.get(game).temperature;
    }

    public int wall(int game, int side, int t) {
        checkGame(game);
        checkSide(side);
        if (t < 0 || t > 100000) {
            throw new IllegalArgumentException();
        }
        return wallOf(games.get(game), side, t);
    }

    public int corner(int game, int side, int i) {
        checkGame(game);
        checkSide(side);
        List<Integer> corners = new ArrayList<>();
        corners.add(0);
        G g = games.get(game);
        for (int t = 1; t < POINTS - 1; t++) {
            int before = wallOf(g, side, t) - wallOf(g, side, t - 1);
            int after = wallOf(g, side, t + 1) - wallOf(g, side, t);
            if (before != after) {
                corners.add(t);
            }
        }
        return i < 0 || i >= corners.size() ? NONE : corners.get(i);
    }

    public int add(int game) {
        checkGame(game);
        if (table.size() == 4) {
            throw new IllegalStateException();
        }
        save(state());
        table.add(game);
        return table.size();
    }

    public int remove(int component) {
        checkComponent(component);
        save(state());
        return table.remove(component);
    }

    public int components() {
        return table.size();
    }

    public int component(int component) {
        checkComponent(component);
        return table.get(component);
    }

    public int move(int component, int side, int i) {
        checkComponent(component);
        checkSide(side);
        int option = option(table.get(component), side, i);
        if (option == NONE) {
            throw new IllegalArgumentException();
        }
        if (isCold(table.get(component))) {
            throw new IllegalStateException();
        }
        save(state());
        table.set(component, option);
        return option;
    }

    public int size() {
        int product = 1;
        for (int g : table) {
            Set<Integer> found = new HashSet<>();
            positions(g, found);
            product *= found.size();
        }
        return product;
    }

    private void positions(int game, Set<Integer> found) {
        found.add(game);
        if (games.get(game).value == null) {
            for (int side = 0; side < 2; side++) {
                for (int o : games.get(game).side(side)) {
                    positions(o, found);
                }
            }
        }
    }

    public int best(int first) {
        checkSide(first);
        checkSize();
        scores.clear();
        return score(table, first);
    }

    private int score(List<Integer> line, int first) {
        List<Integer> key = new ArrayList<>(line);
        key.add(first);
        Integer have = scores.get(key);
        if (have != null) {
            return have;
        }
        Integer best = null;
        for (int m : moves(line, first)) {
            int s = score(after(line, first, m), 1 - first);
            if (best == null || (first == 0 ? s > best : s < best)) {
                best = s;
            }
        }
        int result = best == null ? sum(line) : best;
        scores.put(key, result);
        return result;
    }

    private List<Integer> moves(List<Integer> line, int player) {
        List<Integer> all = new ArrayList<>();
        for (int c = 0; c < line.size(); c++) {
            G g = games.get(line.get(c));
            for (int i = 0; g.value == null && i < g.side(player).size(); i++) {
                all.add(100 * c + i);
            }
        }
        return all;
    }

    private List<Integer> after(List<Integer> line, int player, int move) {
        List<Integer> next = new ArrayList<>(line);
        next.set(move / 100, option(line.get(move / 100), player, move % 100));
        return next;
    }

    private int sum(List<Integer> line) {
        int sum = 0;
        for (int g : line) {
            sum += games.get(g).mean;
        }
        return sum;
    }

    public int advice(int player, int strategy) {
        checkSide(player);
        if (strategy < 0 || strategy > 3) {
            throw new IllegalArgumentException();
        }
        if (strategy == 3) {
            checkSize();
        }
        scores.clear();
        return choose(table, player, strategy);
    }

    private int choose(List<Integer> line, int player, int strategy) {
        List<Integer> all = moves(line, player);
        if (all.isEmpty() || strategy == 0) {
            return all.isEmpty() ? NONE : all.get(0);
        }
        int hottest = 0;
        for (int g : line) {
            hottest = Math.max(hottest, games.get(g).temperature);
        }
        int chosen = NONE;
        int best = Integer.MIN_VALUE;
        int component = NONE;
        for (int m : all) {
            int old = line.get(m / 100);
            int option = option(old, player, m % 100);
            int sign = player == 0 ? 1 : -1;
            int merit;
            if (strategy == 1) {
                if (games.get(old).temperature != hottest || component != NONE && component != m / 100) {
                    continue;
                }
                component = m / 100;
                merit = sign * wallOf(games.get(option), 1 - player, hottest);
            } else if (strategy == 2) {
                merit = sign * (games.get(option).mean - games.get(old).mean);
            } else {
                merit = score(after(line, player, m), 1 - player) == score(line, player) ? 1 : 0;
            }
            if (merit > best) {
                best = merit;
                chosen = m;
            }
        }
        return chosen;
    }

    public int play(int first, int left, int right) {
        checkSide(first);
        if (left < 0 || left > 3 || right < 0 || right > 3) {
            throw new IllegalArgumentException();
        }
        if (left == 3 || right == 3) {
            checkSize();
        }
        scores.clear();
        log.clear();
        List<Integer> line = new ArrayList<>(table);
        int player = first;
        while (true) {
            int m = choose(line, player, player == 0 ? left : right);
            if (m == NONE) {
                return sum(line);
            }
            log.add(m);
            line = after(line, player, m);
            player = 1 - player;
        }
    }

    public int played(int k) {
        return k < 0 || k >= log.size() ? NONE : log.get(k);
    }

    public int type(int c) {
        if (c < 32 || c > 126) {
            throw new IllegalArgumentException();
        }
        if (text.length() == 80) {
            throw new IllegalStateException();
        }
        text.append((char) c);
        return text.length();
    }

    public int clearText() {
        int had = text.length();
        text.setLength(0);
        return had;
    }

    public int fault() {
        try {
            parseText();
            return NONE;
        } catch (Fault f) {
            return f.index;
        }
    }

    public int read() {
        Tree tree;
        try {
            tree = parseText();
        } catch (Fault f) {
            throw new IllegalArgumentException();
        }
        int[] before = state();
        try {
            int made = build(tree);
            save(before);
            return made;
        } catch (IllegalStateException e) {
            cut(before[0]);
            throw e;
        }
    }

    private int build(Tree tree) {
        if (tree.eighths != null) {
            return makeNumber(tree.eighths);
        }
        TreeSet<Integer> left = new TreeSet<>();
        TreeSet<Integer> right = new TreeSet<>();
        for (Tree t : tree.left) {
            left.add(build(t));
        }
        for (Tree t : tree.right) {
            right.add(build(t));
        }
        return compose(left, right);
    }

    private Tree parseText() {
        at = 0;
        Tree tree = parseGame();
        skip();
        if (at < text.length()) {
            throw new Fault(at);
        }
        return tree;
    }

    private char peek() {
        return at < text.length() ? text.charAt(at) : '\0';
    }

    private void skip() {
        while (peek() == ' ') {
            at++;
        }
    }

    private Tree parseGame() {
        skip();
        char c = peek();
        if (c >= '0' && c <= '9') {
            return tree(parsePositive());
        }
        if (c == '-') {
            at++;
            return tree(-parsePositive());
        }
        if (c == '+') {
            at++;
            if (peek() != '-') {
                throw new Fault(at);
            }
            at++;
            int x = parsePositive();
            return tree(tree(x), tree(-x));
        }
        if (c == '{') {
            at++;
            Tree tree = new Tree();
            parseList(tree.left, '|');
            parseList(tree.right, '}');
            return tree;
        }
        return parseName();
    }

    private void parseList(List<Tree> list, char close) {
        skip();
        if (peek() == close) {
            at++;
            return;
        }
        while (true) {
            list.add(parseGame());
            skip();
            if (peek() == close) {
                at++;
                return;
            }
            if (peek() != ',') {
                throw new Fault(at);
            }
            at++;
        }
    }

    private Tree parseName() {
        int from = at;
        while (peek() >= 'a' && peek() <= 'z') {
            at++;
        }
        String name = text.substring(from, at);
        Tree star = tree(tree(0), tree(0));
        switch (name) {
            case "star":
                return star;
            case "up":
                return tree(tree(0), star);
            case "down":
                return tree(star, tree(0));
            default:
                throw new Fault(from);
        }
    }

    private int parsePositive() {
        skip();
        int from = at;
        String digits = parseDigits();
        if (digits.isEmpty() || digits.length() > 2 || digits.length() == 2 && digits.charAt(0) == '0') {
            throw new Fault(from);
        }
        int n = Integer.parseInt(digits);
        skip();
        if (peek() != '/') {
            if (n > 8) {
                throw new Fault(from);
            }
            return 8 * n;
        }
        at++;
        skip();
        int behind = at;
        String denominator = parseDigits();
        if (!Arrays.asList("2", "4", "8").contains(denominator) || n > 8 * Integer.parseInt(denominator)) {
            throw new Fault(behind);
        }
        return 8 * n / Integer.parseInt(denominator);
    }

    private String parseDigits() {
        int from = at;
        while (peek() >= '0' && peek() <= '9') {
            at++;
        }
        return text.substring(from, at);
    }

    private static Tree tree(int eighths) {
        Tree tree = new Tree();
        tree.eighths = eighths;
        return tree;
    }

    private static Tree tree(Tree left, Tree right) {
        Tree tree = new Tree();
        tree.left.add(left);
        tree.right.add(right);
        return tree;
    }

    public int write(int game) {
        checkGame(game);
        StringBuilder out = new StringBuilder();
        put(game, out);
        if (out.length() > 400) {
            throw new IllegalStateException();
        }
        written = out.toString();
        return written.length();
    }

    private void put(int game, StringBuilder out) {
        if (out.length() > 1000) {
            return;
        }
        G g = games.get(game);
        if (g.eighths != null) {
            int p = g.eighths;
            int q = 8;
            while (q > 1 && p % 2 == 0) {
                p /= 2;
                q /= 2;
            }
            out.append(q == 1 ? "" + p : p + "/" + q);
            return;
        }
        out.append('{');
        putAll(g.left, out);
        out.append('|');
        putAll(g.right, out);
        out.append('}');
    }

    private void putAll(TreeSet<Integer> set, StringBuilder out) {
        String comma = "";
        for (int o : set) {
            out.append(comma);
            put(o, out);
            comma = ",";
        }
    }

    public int written(int i) {
        return i < 0 || i >= written.length() ? NONE : written.charAt(i);
    }

    public int undo() {
        if (saved.isEmpty()) {
            throw new IllegalStateException();
        }
        int[] state = saved.remove(saved.size() - 1);
        cut(state[0]);
        draftLeft.removeIf(g -> g >= state[0]);
        draftRight.removeIf(g -> g >= state[0]);
        table.clear();
        for (int c = 1; c < state.length; c++) {
            table.add(state[c]);
        }
        return saved.size();
    }

    public long checksum() {
        List<Integer> all = new ArrayList<>();
        all.add(games.size());
        for (int g = 0; g < games.size(); g++) {
            all.add(depth(g));
            all.add(options(g, 0));
            all.add(options(g, 1));
            all.addAll(games.get(g).left);
            all.addAll(games.get(g).right);
            all.add(mean(g));
            all.add(temperature(g));
            all.add(wall(g, 0, 0));
            all.add(wall(g, 1, 0));
        }
        all.add(table.size());
        all.addAll(table);
        all.add(text.length());
        all.add(draftLeft.size());
        all.add(draftRight.size());
        all.add(saved.size());
        long h = 18487;
        for (int v : all) {
            h = 31 * h + v;
        }
        return h;
    }

    private int[] state() {
        int[] state = new int[1 + table.size()];
        state[0] = games.size();
        for (int c = 0; c < table.size(); c++) {
            state[1 + c] = table.get(c);
        }
        return state;
    }

    private void save(int[] state) {
        saved.add(state);
        if (saved.size() > 6) {
            saved.remove(0);
        }
    }

    private void cut(int count) {
        while (games.size() > count) {
            games.remove(games.size() - 1);
        }
    }

    private void checkGame(int game) {
        if (game < 0 || game >= games.size()) {
            throw new IndexOutOfBoundsException();
        }
    }

    private void checkComponent(int component) {
        if (component < 0 || component >= table.size()) {
            throw new IndexOutOfBoundsException();
        }
    }

    private void checkSide(int side) {
        if (side != 0 && side != 1) {
            throw new IllegalArgumentException();
        }
    }

    private void checkSize() {
        if (size() > 4000) {
            throw new IllegalStateException();
        }
    }

    private int makeNumber(int eighths) {
        for (int g = 0; g < games.size(); g++) {
            if (games.get(g).eighths != null && games.get(g).eighths == eighths) {
                return g;
            }
        }
        G made = new G();
        made.eighths = eighths;
        made.node = numberNode(128 * eighths);
        made.value = 128 * eighths;
        made.mean = made.value;
        return enter(made);
    }

    private int compose(TreeSet<Integer> left, TreeSet<Integer> right) {
        for (int g = 0; g < games.size(); g++) {
            G game = games.get(g);
            if (game.eighths == null && game.left.equals(left) && game.right.equals(right)) {
                return g;
            }
        }
        G made = new G();
        made.left = left;
        made.right = right;
        if (left.size() > 4 || right.size() > 4 || depthOf(made) > 6) {
            throw new IllegalStateException();
        }
        made.node = new Node(nodes++);
        for (int o : left) {
            made.node.left.add(games.get(o).node);
        }
        for (int o : right) {
            made.node.right.add(games.get(o).node);
        }
        made.value = valueOf(made.node);
        if (made.value != null) {
            made.mean = made.value;
        } else {
            drawWalls(made);
        }
        return enter(made);
    }

    private int enter(G made) {
        if (games.size() == 40) {
            throw new IllegalStateException();
        }
        games.add(made);
        return games.size() - 1;
    }

    private Node numberNode(int x) {
        Node have = numbers.get(x);
        if (have != null) {
            return have;
        }
        Node node = new Node(nodes++);
        numbers.put(x, node);
        if (x % 1024 == 0) {
            if (x > 0) {
                node.left.add(numberNode(x - 1024));
            }
            if (x < 0) {
                node.right.add(numberNode(x + 1024));
            }
        } else {
            int step = Integer.lowestOneBit(x);
            node.left.add(numberNode(x - step));
            node.right.add(numberNode(x + step));
        }
        return node;
    }

    private boolean ge(Node g, Node h) {
        long key = ((long) g.id << 32) | h.id;
        Boolean have = known.get(key);
        if (have != null) {
            return have;
        }
        boolean result = true;
        for (Node r : g.right) {
            result = result && !ge(h, r);
        }
        for (Node l : h.left) {
            result = result && !ge(l, g);
        }
        known.put(key, result);
        return result;
    }

    /** The greatest number below the game, if the game is not above it: numbers are in order. */
    private Integer valueOf(Node node) {
        int low = -15 * 1024;
        int high = 15 * 1024;
        while (high - low > 1) {
            int middle = Math.floorDiv(low + high, 2);
            if (ge(node, numberNode(middle))) {
                low = middle;
            } else {
                high = middle;
            }
        }
        return ge(numberNode(low), node) ? low : null;
    }

    private int wallOf(G g, int side, int t) {
        return g.walls == null ? g.mean : g.walls[side][Math.min(t, POINTS - 1)];
    }

    private void drawWalls(G g) {
        int[][] walls = new int[2][POINTS];
        for (int t = 0; t < POINTS; t++) {
            int a = Integer.MIN_VALUE;
            int b = Integer.MAX_VALUE;
            for (int o : g.left) {
                a = Math.max(a, wallOf(games.get(o), 1, t) - t);
            }
            for (int o : g.right) {
                b = Math.min(b, wallOf(games.get(o), 0, t) + t);
            }
            if (g.temperature == NONE && a == b) {
                g.temperature = t;
                g.mean = a;
            }
            walls[0][t] = g.temperature == NONE ? a : g.mean;
            walls[1][t] = g.temperature == NONE ? b : g.mean;
        }
        g.walls = walls;
        if (g.temperature == NONE || g.temperature % 2 != 0 || g.mean % 2 != 0) {
            throw new AssertionError("a hot game without a temperature and a mean in 512ths");
        }
    }
}

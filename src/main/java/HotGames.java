/**
 * A workbench for two-player games of combinatorial game theory: games composed of left and right
 * options, their comparison, thermographs, sums that are played for a score, and a notation.
 */
public final class HotGames {
    public static final int NONE = -1;

    private static final int LEFT = 0;
    private static final int RIGHT = 1;
    private static final int MAX_GAMES = 40;
    private static final int MAX_OPTIONS = 4;
    private static final int MAX_DEPTH = 6;
    private static final int MAX_EIGHTHS = 64;
    private static final int MAX_COMPONENTS = 4;
    private static final int MAX_SIZE = 4000;
    private static final int MAX_MOVES = MAX_COMPONENTS * MAX_DEPTH;
    private static final int MAX_TEXT = 80;
    /** The text "up," gives the most steps: nine, and a comma has to follow. */
    private static final int MAX_STEPS = 5 * MAX_TEXT;
    private static final int MAX_WRITTEN = 400;
    private static final int MAX_T = 100000;
    private static final int OPTIMAL = 3;
    private static final int ONE = 1024;
    private static final int EIGHTH = 128;
    /** A power of 2 above every temperature: no game is worth more than 14, so none is hotter. */
    private static final int TOP = 16 * ONE;
    /** Farther from 0 than any wall, for the bounds of a game that has no options on a side. */
    private static final int FAR = 1 << 24;
    private static final long CHECKSUM_START = 18487L;

    private final Shelf shelf = new Shelf();
    private final Table table = new Table();
    private final Solver solver = new Solver(shelf);
    private final Adviser adviser = new Adviser(shelf, solver);
    private final Text text = new Text();
    private final Builder builder = new Builder(shelf);
    private final Pen pen = new Pen(shelf);
    private final History history = new History();
    private final long[] drafted = new long[2];
    private final int[] line = new int[MAX_COMPONENTS];
    private final int[] log = new int[MAX_MOVES];
    private int logged = 0;

    public HotGames() {
        int zero = shelf.makeNumber(0);
        int one = shelf.makeNumber(8);
        int minusOne = shelf.makeNumber(-8);
        int star = shelf.compose(bit(zero), bit(zero));
        shelf.compose(bit(zero), bit(star));
        int first = shelf.compose(bit(one), bit(minusOne));
        int two = shelf.makeNumber(16);
        int inner = shelf.compose(bit(two), bit(zero));
        int second = shelf.compose(bit(inner), bit(minusOne));
        shelf.compose(bit(zero) | bit(star), bit(zero));
        table.append(first);
        table.append(second);
    }

    // ---- games

    public int games() {
        return shelf.count;
    }

    public int number(int eighths) throws IllegalArgumentException, IllegalStateException {
        if (eighths < -MAX_EIGHTHS || eighths > MAX_EIGHTHS) {
            throw new IllegalArgumentException("a number is from -64 to 64 eighths");
        }
        int before = shelf.count;
        int made = shelf.makeNumber(eighths);
        if (made == NONE) {
            throw new IllegalStateException("there are 40 games");
        }
        history.save(before, table);
        return made;
    }

    public int draft(int side, int game)
            throws IndexOutOfBoundsException, IllegalArgumentException, IllegalStateException {
        requireGame(game);
        requireSide(side);
        long with = drafted[side] | bit(game);
        if (Long.bitCount(with) > MAX_OPTIONS) {
            throw new IllegalStateException("the draft has 4 other options on this side");
        }
        drafted[side] = with;
        return Long.bitCount(with);
    }

    public int clearDraft() {
        int had = Long.bitCount(drafted[LEFT]) + Long.bitCount(drafted[RIGHT]);
        drafted[LEFT] = 0L;
        drafted[RIGHT] = 0L;
        return had;
    }

    public int make() throws IllegalStateException {
        int before = shelf.count;
        int made = shelf.compose(drafted[LEFT], drafted[RIGHT]);
        if (made == NONE) {
            throw new IllegalStateException("the game would be too deep, or there are 40 games");
        }
        drafted[LEFT] = 0L;
        drafted[RIGHT] = 0L;
        history.save(before, table);
        return made;
    }

    public int negative(int game) throws IndexOutOfBoundsException, IllegalStateException {
        requireGame(game);
        int before = shelf.count;
        int made = builder.negate(game);
        if (made == NONE) {
            shelf.count = before;
            throw new IllegalStateException("more than 40 games would be needed");
        }
        history.save(before, table);
        return made;
    }

    public int options(int game, int side) throws IndexOutOfBoundsException, IllegalArgumentException {
        requireGame(game);
        requireSide(side);
        return shelf.games[game].counts[side];
    }

    public int option(int game, int side, int i) throws IndexOutOfBoundsException, IllegalArgumentException {
        requireGame(game);
        requireSide(side);
        return shelf.games[game].optionAt(side, i);
    }

    public int depth(int game) throws IndexOutOfBoundsException {
        requireGame(game);
        return shelf.games[game].depth;
    }

    // ---- comparison

    public int compare(int one, int other) throws IndexOutOfBoundsException {
        requireGame(one);
        requireGame(other);
        boolean up = shelf.isAtLeast(one, other);
        boolean down = shelf.isAtLeast(other, one);
        if (up) {
            return down ? 0 : 1;
        }
        return down ? 2 : 3;
    }

    public boolean isCold(int game) throws IndexOutOfBoundsException {
        requireGame(game);
        return shelf.games[game].cold;
    }

    public int value(int game) throws IndexOutOfBoundsException, IllegalStateException {
        requireGame(game);
        if (!shelf.games[game].cold) {
            throw new IllegalStateException("the game is hot");
        }
        return shelf.games[game].mean;
    }

    public int dominated(int game, int side, int i) throws IndexOutOfBoundsException, IllegalArgumentException {
        requireGame(game);
        requireSide(side);
        return shelf.dominatorOf(shelf.games[game], side, i);
    }

    public int reversible(int game, int side, int i) throws IndexOutOfBoundsException, IllegalArgumentException {
        requireGame(game);
        requireSide(side);
        int option = shelf.games[game].optionAt(side, i);
        if (option == NONE) {
            return NONE;
        }
        return shelf.isReversible(game, side, option) ? 1 : 0;
    }

    // ---- thermographs

    public int mean(int game) throws IndexOutOfBoundsException {
        requireGame(game);
        return shelf.games[game].mean;
    }

    public int temperature(int game) throws IndexOutOfBoundsException {
        requireGame(game);
        return shelf.games[game].temperature;
    }

    public int wall(int game, int side, int t) throws IndexOutOfBoundsException, IllegalArgumentException {
        requireGame(game);
        requireSide(side);
        if (t < 0 || t > MAX_T) {
            throw new IllegalArgumentException("t is from 0 to 100000");
        }
        return shelf.wallAt(game, side, t);
    }

    public int corner(int game, int side, int i) throws IndexOutOfBoundsException, IllegalArgumentException {
        requireGame(game);
        requireSide(side);
        int t = i < 0 ? NONE : 0;
        for (int k = 0; k < i && t != NONE; k++) {
            t = shelf.cornerBehind(game, side, t);
        }
        return t;
    }

    // ---- the table

    public int add(int game) throws IndexOutOfBoundsException, IllegalStateException {
        requireGame(game);
        if (table.count >= MAX_COMPONENTS) {
            throw new IllegalStateException("there are 4 components");
        }
        history.save(shelf.count, table);
        table.append(game);
        return table.count;
    }

    public int remove(int component) throws IndexOutOfBoundsException {
        requireComponent(component);
        history.save(shelf.count, table);
        return table.takeOut(component);
    }

    public int components() {
        return table.count;
    }

    public int component(int component) throws IndexOutOfBoundsException {
        requireComponent(component);
        return table.games[component];
    }

    public int move(int component, int side, int i)
            throws IndexOutOfBoundsException, IllegalArgumentException, IllegalStateException {
        requireComponent(component);
        requireSide(side);
        Game game = shelf.games[table.games[component]];
        int option = game.optionAt(side, i);
        if (option == NONE) {
            throw new IllegalArgumentException("there is no such option");
        }
        if (game.cold) {
            throw new IllegalStateException("the component is cold");
        }
        history.save(shelf.count, table);
        table.games[component] = option;
        return option;
    }

    public int size() {
        int product = 1;
        for (int c = 0; c < table.count; c++) {
            product *= Long.bitCount(shelf.games[table.games[c]].positions);
        }
        return product;
    }

    public int best(int first) throws IllegalArgumentException, IllegalStateException {
        requireSide(first);
        requireSmallTable();
        solver.solve(table.games, table.count);
        return solver.scoreOf(table.games, table.count, first);
    }

    public int advice(int player, int strategy) throws IllegalArgumentException, IllegalStateException {
        requireSide(player);
        requireStrategy(strategy);
        if (strategy == OPTIMAL) {
            requireSmallTable();
            solver.solve(table.games, table.count);
        }
        layLine();
        return adviser.advise(line, table.count, player, strategy);
    }

    public int play(int first, int left, int right) throws IllegalArgumentException, IllegalStateException {
        requireSide(first);
        requireStrategy(left);
        requireStrategy(right);
        if (left == OPTIMAL || right == OPTIMAL) {
            requireSmallTable();
            solver.solve(table.games, table.count);
        }
        layLine();
        playLine(first, left, right);
        return shelf.sumOfMeans(line, table.count);
    }

    public int played(int k) {
        return k >= 0 && k < logged ? log[k] : NONE;
    }

    // ---- notation

    public int type(int c) throws IllegalArgumentException, IllegalStateException {
        if (c < 32 || c > 126) {
            throw new IllegalArgumentException("a character's code is from 32 to 126");
        }
        if (text.length >= MAX_TEXT) {
            throw new IllegalStateException("the text has 80 characters");
        }
        text.append((char) c);
        return text.length;
    }

    public int clearText() {
        int had = text.length;
        text.length = 0;
        return had;
    }

    public int fault() {
        return text.parse();
    }

    public int read() throws IllegalArgumentException, IllegalStateException {
        if (text.parse() != NONE) {
            throw new IllegalArgumentException("the text has a fault");
        }
        int before = shelf.count;
        int made = builder.build(text.steps, text.stepCount);
        if (made == NONE) {
            shelf.count = before;
            throw new IllegalStateException("too many options, too deep, or more than 40 games");
        }
        history.save(before, table);
        return made;
    }

    public int write(int game) throws IndexOutOfBoundsException, IllegalStateException {
        requireGame(game);
        if (shelf.games[game].length > MAX_WRITTEN) {
            throw new IllegalStateException("it would be longer than 400 characters");
        }
        pen.copyOut(game);
        return pen.length;
    }

    public int written(int i) {
        return i >= 0 && i < pen.length ? pen.signs[i] : NONE;
    }

    // ---- undo, checksum

    public int undo() throws IllegalStateException {
        if (history.count == 0) {
            throw new IllegalStateException("no state is saved");
        }
        shelf.count = history.restore(table);
        long existing = bit(shelf.count) - 1L;
        drafted[LEFT] &= existing;
        drafted[RIGHT] &= existing;
        return history.count;
    }

    public long checksum() {
        long h = mix(CHECKSUM_START, shelf.count);
        for (int g = 0; g < shelf.count; g++) {
            h = mixGame(h, shelf.games[g]);
        }
        h = mix(h, table.count);
        for (int c = 0; c < table.count; c++) {
            h = mix(h, table.games[c]);
        }
        h = mix(h, text.length);
        h = mix(h, Long.bitCount(drafted[LEFT]));
        h = mix(h, Long.bitCount(drafted[RIGHT]));
        return mix(h, history.count);
    }

    private static long mix(long h, int v) {
        return 31L * h + v;
    }

    private static long mixGame(long start, Game game) {
        long h = mix(start, game.depth);
        h = mix(h, game.counts[LEFT]);
        h = mix(h, game.counts[RIGHT]);
        for (int side = LEFT; side <= RIGHT; side++) {
            for (int i = 0; i < game.counts[side]; i++) {
                h = mix(h, game.optionAt(side, i));
            }
        }
        h = mix(h, game.mean);
        h = mix(h, game.temperature);
        h = mix(h, game.stops[LEFT]);
        return mix(h, game.stops[RIGHT]);
    }

    private void layLine() {
        for (int c = 0; c < table.count; c++) {
            line[c] = table.games[c];
        }
    }

    /** Plays the line to its end; every move lowers a depth, so the log never overflows. */
    private void playLine(int first, int left, int right) {
        int player = first;
        logged = 0;
        for (int k = 0; k < MAX_MOVES; k++) {
            int chosen = adviser.advise(line, table.count, player, player == LEFT ? left : right);
            if (chosen == NONE) {
                return;
            }
            int component = chosen / 100;
            line[component] = shelf.games[line[component]].optionAt(player, chosen % 100);
            log[k] = chosen;
            logged = k + 1;
            player = 1 - player;
        }
    }

    private void requireGame(int game) {
        if (game < 0 || game >= shelf.count) {
            throw new IndexOutOfBoundsException("there is no such game");
        }
    }

    private void requireComponent(int component) {
        if (component < 0 || component >= table.count) {
            throw new IndexOutOfBoundsException("there is no such component");
        }
    }

    private static void requireSide(int side) {
        if (side != LEFT && side != RIGHT) {
            throw new IllegalArgumentException("neither 0 nor 1");
        }
    }

    private static void requireStrategy(int strategy) {
        if (strategy < 0 || strategy > OPTIMAL) {
            throw new IllegalArgumentException("a strategy is from 0 to 3");
        }
    }

    private void requireSmallTable() {
        if (size() > MAX_SIZE) {
            throw new IllegalStateException("the size of the table is greater than 4000");
        }
    }

    private static long bit(int game) {
        return 1L << game;
    }

    private static boolean contains(long set, int game) {
        return (set >>> game & 1L) != 0L;
    }

    /** Turns what is good for a side into what is great. */
    private static int signOf(int side) {
        return side == LEFT ? 1 : -1;
    }

    /** One game and all that is known of it; filled anew when its number is given again. */
    private static final class Game {
        final long[] sets = new long[2];
        final int[] counts = new int[2];
        final int[] listed = new int[2 * MAX_OPTIONS];
        /** The walls at t = 0. */
        final int[] stops = new int[2];
        /** Whether left stop >= game, and whether game >= right stop. */
        final boolean[] touches = new boolean[2];
        boolean composed;
        int eighths;
        int depth;
        int length;
        boolean cold;
        int mean;
        int temperature;
        /** The game and all games of which it is composed. */
        long parts;
        /** The game and, if it is hot, the positions of its options. */
        long positions;

        void becomeNumber(int n) {
            composed = false;
            eighths = n;
            depth = 0;
            length = lengthOfNumber(n);
            takeOptions(LEFT, 0L);
            takeOptions(RIGHT, 0L);
            becomeCold(n * EIGHTH);
        }

        void takeOptions(int side, long set) {
            sets[side] = set;
            int found = 0;
            for (int g = 0; g < MAX_GAMES && found < MAX_OPTIONS; g++) {
                if (contains(set, g)) {
                    listed[side * MAX_OPTIONS + found] = g;
                    found++;
                }
            }
            counts[side] = found;
        }

        void becomeCold(int value) {
            cold = true;
            mean = value;
            temperature = NONE;
            for (int side = LEFT; side <= RIGHT; side++) {
                stops[side] = value;
                touches[side] = true;
            }
        }

        int optionAt(int side, int i) {
            return i >= 0 && i < counts[side] ? listed[side * MAX_OPTIONS + i] : NONE;
        }

        /** Tells whether the game >= a number: its right stop decides, and at the stop the touch. */
        boolean isAtLeastNumber(int x) {
            return x < stops[RIGHT] || x == stops[RIGHT] && touches[RIGHT];
        }

        boolean isAtMostNumber(int x) {
            return x > stops[LEFT] || x == stops[LEFT] && touches[LEFT];
        }

        static int lengthOfNumber(int n) {
            int sign = n < 0 ? 1 : 0;
            int halved = halvings(n);
            int numerator = (n < 0 ? -n : n) >> halved;
            return sign + (numerator < 10 ? 1 : 2) + (halved < 3 ? 2 : 0);
        }
    }

    /** How often a fraction of eighths can be reduced by 2: three times if it is an integer. */
    private static int halvings(int eighths) {
        if (eighths % 8 == 0) {
            return 3;
        }
        if (eighths % 4 == 0) {
            return 2;
        }
        return eighths % 2 == 0 ? 1 : 0;
    }

    /** All games, their comparison and their walls. */
    private static final class Shelf {
        final Game[] games = new Game[MAX_GAMES];
        int count = 0;
        /** Row g holds the games h, made before g or after it, with g >= h. */
        private final long[] below = new long[MAX_GAMES];
        /** The walls of the games that were swept last, at the t of that sweep. */
        private final int[][] walls = new int[2][MAX_GAMES];
        private final int[] edges = new int[2];
        private final boolean[] edgesIn = new boolean[2];

        Shelf() {
            for (int g = 0; g < MAX_GAMES; g++) {
                games[g] = new Game();
            }
        }

        /** Returns NONE if it has to be made and there is no room. */
        int makeNumber(int eighths) {
            for (int g = 0; g < count; g++) {
                if (!games[g].composed && games[g].eighths == eighths) {
                    return g;
                }
            }
            if (count >= MAX_GAMES) {
                return NONE;
            }
            Game game = games[count];
            game.becomeNumber(eighths);
            game.parts = bit(count);
            game.positions = bit(count);
            return enter();
        }

        /** Returns NONE if it has to be made and is too wide or too deep, or there is no room. */
        int compose(long left, long right) {
            for (int g = 0; g < count; g++) {
                Game game = games[g];
                if (game.composed && game.sets[LEFT] == left && game.sets[RIGHT] == right) {
                    return g;
                }
            }
            boolean wide = Long.bitCount(left) > MAX_OPTIONS || Long.bitCount(right) > MAX_OPTIONS;
            if (wide || count >= MAX_GAMES || depthAbove(left | right) > MAX_DEPTH) {
                return NONE;
            }
            Game game = games[count];
            game.composed = true;
            game.depth = depthAbove(left | right);
            game.takeOptions(LEFT, left);
            game.takeOptions(RIGHT, right);
            gather(game);
            findEdge(game, LEFT);
            findEdge(game, RIGHT);
            if (edgesLeaveRoom()) {
                game.positions = bit(count);
                game.becomeCold(simplest(edges[LEFT], edgesIn[LEFT], edges[RIGHT], edgesIn[RIGHT]));
            } else {
                becomeHot(game);
            }
            return enter();
        }

        private int depthAbove(long set) {
            int deepest = 0;
            for (int g = 0; g < count; g++) {
                if (contains(set, g)) {
                    deepest = Math.max(deepest, games[g].depth);
                }
            }
            return deepest + 1;
        }

        private void gather(Game game) {
            int commas = Math.max(0, game.counts[LEFT] - 1) + Math.max(0, game.counts[RIGHT] - 1);
            game.length = 3 + commas;
            game.parts = bit(count);
            for (int side = LEFT; side <= RIGHT; side++) {
                for (int i = 0; i < game.counts[side]; i++) {
                    Game option = games[game.optionAt(side, i)];
                    game.length += option.length;
                    game.parts |= option.parts;
                }
            }
        }

        /**
         * A number is the value of a game if no left option reaches it, if it reaches no right
         * option, and if it is the simplest such number. The best stop of a side's options is the
         * edge of these numbers; it is in if no option with this stop touches it.
         */
        private void findEdge(Game game, int side) {
            int sign = signOf(side);
            int edge = -FAR;
            boolean in = true;
            for (int i = 0; i < game.counts[side]; i++) {
                Game option = games[game.optionAt(side, i)];
                int stop = sign * option.stops[1 - side];
                boolean touch = option.touches[1 - side];
                if (stop > edge) {
                    edge = stop;
                    in = !touch;
                } else if (stop == edge) {
                    in = in && !touch;
                }
            }
            edges[side] = sign * edge;
            edgesIn[side] = in;
        }

        private boolean edgesLeaveRoom() {
            boolean bothIn = edgesIn[LEFT] && edgesIn[RIGHT];
            return edges[LEFT] < edges[RIGHT] || edges[LEFT] == edges[RIGHT] && bothIn;
        }

        /** Without numbers between the edges the edges are the stops. */
        private void becomeHot(Game game) {
            game.cold = false;
            game.positions = bit(count);
            for (int side = LEFT; side <= RIGHT; side++) {
                game.stops[side] = edges[side];
                game.touches[side] = edgesIn[side];
                for (int i = 0; i < game.counts[side]; i++) {
                    game.positions |= games[game.optionAt(side, i)].positions;
                }
            }
            long others = game.parts & ~bit(count);
            int hot = -1;
            for (int step = TOP / 2; step > 0; step /= 2) {
                sweep(others, hot + step);
                if (scaffold(game, LEFT, hot + step) > scaffold(game, RIGHT, hot + step)) {
                    hot += step;
                }
            }
            sweep(others, hot + 1);
            game.temperature = hot + 1;
            game.mean = scaffold(game, LEFT, hot + 1);
        }

        /** The number of the least denominator between two bounds, the nearest to 0 of several. */
        private static int simplest(int low, boolean lowIn, int high, boolean highIn) {
            if (high < 0 || high == 0 && !highIn) {
                return -simplestPositive(-high, highIn, -low, lowIn);
            }
            if (low > 0 || low == 0 && !lowIn) {
                return simplestPositive(low, lowIn, high, highIn);
            }
            return 0;
        }

        private static int simplestPositive(int low, boolean lowIn, int high, boolean highIn) {
            for (int step = ONE; step > 0; step /= 2) {
                int x = low / step * step;
                if (x < low || x == low && !lowIn) {
                    x += step;
                }
                if (x < high || x == high && highIn) {
                    return x;
                }
            }
            return low;
        }

        /** Compares the newest game with all others and counts it. */
        private int enter() {
            int newest = count;
            below[newest] = bit(newest);
            for (int g = 0; g < newest; g++) {
                if (isReached(newest, g)) {
                    below[newest] |= bit(g);
                }
                if (isReached(g, newest)) {
                    below[g] |= bit(newest);
                } else {
                    below[g] &= ~bit(newest);
                }
            }
            count = newest + 1;
            return newest;
        }

        /** Works out g >= h where that is known for all their options. */
        private boolean isReached(int g, int h) {
            Game one = games[g];
            Game other = games[h];
            if (other.cold) {
                return one.isAtLeastNumber(other.mean);
            }
            if (one.cold) {
                return other.isAtMostNumber(one.mean);
            }
            for (int i = 0; i < one.counts[RIGHT]; i++) {
                if (isAtLeast(h, one.optionAt(RIGHT, i))) {
                    return false;
                }
            }
            for (int i = 0; i < other.counts[LEFT]; i++) {
                if (isAtLeast(other.optionAt(LEFT, i), g)) {
                    return false;
                }
            }
            return true;
        }

        boolean isAtLeast(int g, int h) {
            return (below[g] >>> h & 1L) != 0L;
        }

        /** Tells whether a player of a side likes one game at least as well as another. */
        private boolean isAsGood(int side, int g, int h) {
            return side == LEFT ? isAtLeast(g, h) : isAtLeast(h, g);
        }

        int dominatorOf(Game game, int side, int i) {
            int option = game.optionAt(side, i);
            if (option == NONE) {
                return NONE;
            }
            for (int j = 0; j < game.counts[side]; j++) {
                int other = game.optionAt(side, j);
                boolean strict = j > i;
                if (j != i && isAsGood(side, other, option) && !(strict && isAsGood(side, option, other))) {
                    return j;
                }
            }
            return NONE;
        }

        boolean isReversible(int game, int side, int option) {
            Game through = games[option];
            if (!through.composed) {
                return isReversibleNumber(games[game], side, through.eighths);
            }
            for (int i = 0; i < through.counts[1 - side]; i++) {
                if (isAsGood(side, game, through.optionAt(1 - side, i))) {
                    return true;
                }
            }
            return false;
        }

        /** The options of a number need not be games, so they are compared as numbers. */
        private static boolean isReversibleNumber(Game game, int side, int eighths) {
            int halved = halvings(eighths);
            if (halved == 3 && signOf(side) * eighths >= 0) {
                return false;
            }
            int reply = (eighths + signOf(side) * (1 << halved)) * EIGHTH;
            return side == LEFT ? game.isAtLeastNumber(reply) : game.isAtMostNumber(reply);
        }

        /** Sets the walls at t of the games of a set that holds the options of its hot games. */
        void sweep(long set, int t) {
            for (int g = 0; g < count; g++) {
                if (contains(set, g)) {
                    Game game = games[g];
                    boolean frozen = game.cold || t >= game.temperature;
                    walls[LEFT][g] = frozen ? game.mean : scaffold(game, LEFT, t);
                    walls[RIGHT][g] = frozen ? game.mean : scaffold(game, RIGHT, t);
                }
            }
        }

        /** The best wall of the options that a side has, less t in its disfavour. */
        private int scaffold(Game game, int side, int t) {
            int sign = side == LEFT ? 1 : -1;
            int best = -FAR;
            for (int i = 0; i < game.counts[side]; i++) {
                int wall = sign * walls[1 - side][game.listed[side * MAX_OPTIONS + i]];
                best = wall > best ? wall : best;
            }
            return sign * (best - t);
        }

        int sweptWall(int g, int side) {
            return walls[side][g];
        }

        int wallAt(int g, int side, int t) {
            sweep(games[g].parts, t);
            return walls[side][g];
        }

        /**
         * Returns the corner behind a corner, or NONE. The slopes of a wall are 0 and 1, or 0 and
         * -1, so a wall that has left a line never comes back to it, and halving finds the end.
         */
        int cornerBehind(int g, int side, int t) {
            int from = wallAt(g, side, t);
            int slope = wallAt(g, side, t + 1) - from;
            int way = 1;
            for (int step = TOP; step > 0; step /= 2) {
                if (wallAt(g, side, t + way + step) == from + slope * (way + step)) {
                    way += step;
                }
            }
            return t + way > TOP ? NONE : t + way;
        }

        int sumOfMeans(int[] line, int length) {
            int sum = 0;
            for (int c = 0; c < length; c++) {
                sum += games[line[c]].mean;
            }
            return sum;
        }
    }

    /** The components that lie on the table. */
    private static final class Table {
        final int[] games = new int[MAX_COMPONENTS];
        int count = 0;

        void append(int game) {
            if (count < MAX_COMPONENTS) {
                games[count] = game;
                count++;
            }
        }

        int takeOut(int component) {
            int game = games[component];
            for (int c = component + 1; c < count; c++) {
                games[c - 1] = games[c];
            }
            count--;
            return game;
        }
    }

    /** The optimal scores of a line of components and of all that can come of it. */
    private static final class Solver {
        private final Shelf shelf;
        private final int[][] ranks = new int[MAX_COMPONENTS][MAX_GAMES];
        private final int[][] ranked = new int[MAX_COMPONENTS][MAX_GAMES];
        private final int[] sizes = new int[MAX_COMPONENTS];
        private final int[] strides = new int[MAX_COMPONENTS];
        private final int[] at = new int[MAX_COMPONENTS];
        /** For Left and for Right as first player; made when they are needed, for they are large. */
        private int[] leftScores = new int[0];
        private int[] rightScores = new int[0];

        Solver(Shelf shelf) {
            this.shelf = shelf;
        }

        /** Options have lower numbers, so every state comes behind all that it can become. */
        void solve(int[] line, int length) {
            if (leftScores.length == 0) {
                leftScores = new int[MAX_SIZE];
                rightScores = new int[MAX_SIZE];
            }
            int size = rank(line, length);
            for (int state = 0; state < size && state < MAX_SIZE; state++) {
                leftScores[state] = bestFrom(state, length, LEFT);
                rightScores[state] = bestFrom(state, length, RIGHT);
                turn(length);
            }
        }

        /** Numbers the positions of every component; returns how many states there are. */
        private int rank(int[] line, int length) {
            int size = 1;
            for (int c = 0; c < length; c++) {
                long positions = shelf.games[line[c]].positions;
                int found = 0;
                for (int g = 0; g <= line[c]; g++) {
                    if (contains(positions, g)) {
                        ranks[c][g] = found;
                        ranked[c][found] = g;
                        found++;
                    }
                }
                at[c] = 0;
                sizes[c] = found;
                strides[c] = size;
                size *= found;
            }
            return size;
        }

        private void turn(int length) {
            for (int c = 0; c < length; c++) {
                at[c]++;
                if (at[c] < sizes[c]) {
                    return;
                }
                at[c] = 0;
            }
        }

        private int bestFrom(int state, int length, int side) {
            int sign = signOf(side);
            int[] replies = side == LEFT ? rightScores : leftScores;
            int best = -FAR;
            int sum = 0;
            for (int c = 0; c < length; c++) {
                Game game = shelf.games[ranked[c][at[c]]];
                sum += game.mean;
                for (int i = 0; i < game.counts[side] && !game.cold; i++) {
                    int fall = at[c] - ranks[c][game.optionAt(side, i)];
                    best = Math.max(best, sign * replies[state - fall * strides[c]]);
                }
            }
            return best == -FAR ? sum : sign * best;
        }

        /** The score of a line that has come of the one that was solved last. */
        int scoreOf(int[] line, int length, int first) {
            int state = 0;
            for (int c = 0; c < length; c++) {
                state += ranks[c][line[c]] * strides[c];
            }
            return first == LEFT ? leftScores[state] : rightScores[state];
        }
    }

    /** Chooses moves; a move is 100 * component + number of the option. */
    private static final class Adviser {
        private final Shelf shelf;
        private final Solver solver;

        Adviser(Shelf shelf, Solver solver) {
            this.shelf = shelf;
            this.solver = solver;
        }

        /** For the optimal strategy the line has to come of the one that was solved last. */
        int advise(int[] line, int length, int player, int strategy) {
            switch (strategy) {
                case 0:
                    return lowest(line, length);
                case 1:
                    return hottest(line, length, player);
                case 2:
                    return greediest(line, length, player);
                default:
                    return optimal(line, length, player);
            }
        }

        private int lowest(int[] line, int length) {
            for (int c = 0; c < length; c++) {
                if (!shelf.games[line[c]].cold) {
                    return 100 * c;
                }
            }
            return NONE;
        }

        private int hottest(int[] line, int length, int player) {
            int chosen = NONE;
            int t = NONE;
            for (int c = 0; c < length; c++) {
                // a cold game has the temperature NONE, which is below all others
                if (shelf.games[line[c]].temperature > t) {
                    t = shelf.games[line[c]].temperature;
                    chosen = c;
                }
            }
            return chosen == NONE ? NONE : 100 * chosen + coolest(shelf.games[line[chosen]], player);
        }

        /** The option whose opposite wall, at the temperature of the game, is best for the player. */
        private int coolest(Game game, int player) {
            shelf.sweep(game.parts, game.temperature);
            int best = -FAR;
            int chosen = 0;
            for (int i = 0; i < game.counts[player]; i++) {
                int wall = signOf(player) * shelf.sweptWall(game.optionAt(player, i), 1 - player);
                if (wall > best) {
                    best = wall;
                    chosen = i;
                }
            }
            return chosen;
        }

        private int greediest(int[] line, int length, int player) {
            int best = -FAR;
            int chosen = NONE;
            for (int c = 0; c < length; c++) {
                Game game = shelf.games[line[c]];
                for (int i = 0; i < game.counts[player] && !game.cold; i++) {
                    int gain = signOf(player) * (shelf.games[game.optionAt(player, i)].mean - game.mean);
                    if (gain > best) {
                        best = gain;
                        chosen = 100 * c + i;
                    }
                }
            }
            return chosen;
        }

        private int optimal(int[] line, int length, int player) {
            int due = solver.scoreOf(line, length, player);
            for (int c = 0; c < length; c++) {
                int old = line[c];
                Game game = shelf.games[old];
                for (int i = 0; i < game.counts[player] && !game.cold; i++) {
                    line[c] = game.optionAt(player, i);
                    int score = solver.scoreOf(line, length, 1 - player);
                    line[c] = old;
                    if (score == due) {
                        return 100 * c + i;
                    }
                }
            }
            return NONE;
        }
    }

    /** The text buffer, its fault, and the steps that build its game. */
    private static final class Text {
        // a step is a number of eighths or one of these
        static final int OPEN = 100;
        static final int BAR = 101;
        static final int CLOSE = 102;

        // tokens: a single character is its own kind
        private static final int END = 0;
        private static final int UNKNOWN = 1;
        private static final int NAME = 2;
        private static final int DIGITS = 3;

        // what may come next
        private static final int GAME = 0;
        private static final int GAME_OR_BAR = 1;
        private static final int GAME_OR_CLOSE = 2;
        private static final int BEHIND_GAME = 3;
        private static final int NOTHING = 4;

        final int[] steps = new int[MAX_STEPS];
        int stepCount;
        int length = 0;
        private final char[] signs = new char[MAX_TEXT];
        private final boolean[] behindBar = new boolean[MAX_TEXT];
        private int open;
        private int expected;
        private int kind;
        private int start;
        private int end;
        private int wrongAt;

        void append(char c) {
            if (length < MAX_TEXT) {
                signs[length] = c;
                length++;
            }
        }

        /** Returns the fault, or NONE; then the steps are those of the text. */
        int parse() {
            stepCount = 0;
            open = 0;
            end = 0;
            wrongAt = NONE;
            expected = GAME;
            advance();
            // every round takes a token, the last one the end of the text
            for (int round = 0; round <= MAX_TEXT && wrongAt == NONE && expected != NOTHING; round++) {
                if (expected == BEHIND_GAME) {
                    takeBehindGame();
                } else {
                    takeGame();
                }
            }
            return wrongAt;
        }

        private void advance() {
            while (end < length && signs[end] == ' ') {
                end++;
            }
            start = end;
            kind = kindAt(start);
            if (kind != END) {
                end++;
            }
            while ((kind == NAME || kind == DIGITS) && end < length && kindAt(end) == kind) {
                end++;
            }
        }

        private int kindAt(int i) {
            if (i >= length) {
                return END;
            }
            char c = signs[i];
            if (c >= 'a' && c <= 'z') {
                return NAME;
            }
            if (c >= '0' && c <= '9') {
                return DIGITS;
            }
            boolean single = c == '+' || c == '-' || c == '/' || c == '{' || c == '|' || c == '}' || c == ',';
            return single ? c : UNKNOWN;
        }

        private void takeGame() {
            if (kind == NAME) {
                takeName();
            } else if (kind == '+') {
                takePlusMinus();
            } else if (kind == '-') {
                advance();
                note(-takePositive());
                expected = BEHIND_GAME;
            } else if (kind == DIGITS) {
                note(takePositive());
                expected = BEHIND_GAME;
            } else if (kind == '{') {
                takeOpen();
            } else if (kind == '|' && expected == GAME_OR_BAR) {
                takeBar();
            } else if (kind == '}' && expected == GAME_OR_CLOSE) {
                takeClose();
            } else {
                wrongAt = start;
            }
        }

        private void takeBehindGame() {
            if (open == 0) {
                expected = NOTHING;
                wrongAt = kind == END ? NONE : start;
            } else if (kind == ',') {
                expected = GAME;
                advance();
            } else if (kind == '|' && !behindBar[open - 1]) {
                takeBar();
            } else if (kind == '}' && behindBar[open - 1]) {
                takeClose();
            } else {
                wrongAt = start;
            }
        }

        private void takeOpen() {
            note(OPEN);
            behindBar[open] = false;
            open++;
            expected = GAME_OR_BAR;
            advance();
        }

        private void takeBar() {
            note(BAR);
            behindBar[open - 1] = true;
            expected = GAME_OR_CLOSE;
            advance();
        }

        private void takeClose() {
            note(CLOSE);
            open--;
            expected = BEHIND_GAME;
            advance();
        }

        /** The steps of a name are those of the same game written with braces. */
        private void takeName() {
            if (isName("star")) {
                noteStar();
            } else if (isName("up")) {
                note(OPEN);
                note(0);
                note(BAR);
                noteStar();
                note(CLOSE);
            } else if (isName("down")) {
                note(OPEN);
                noteStar();
                note(BAR);
                note(0);
                note(CLOSE);
            } else {
                wrongAt = start;
            }
            expected = BEHIND_GAME;
            advance();
        }

        private void noteStar() {
            notePair(0, 0);
        }

        private void notePair(int left, int right) {
            note(OPEN);
            note(left);
            note(BAR);
            note(right);
            note(CLOSE);
        }

        private boolean isName(String name) {
            if (end - start != name.length()) {
                return false;
            }
            for (int i = 0; i < name.length(); i++) {
                if (signs[start + i] != name.charAt(i)) {
                    return false;
                }
            }
            return true;
        }

        private void takePlusMinus() {
            if (kindAt(end) != '-') {
                wrongAt = end;
                return;
            }
            advance();
            advance();
            int x = takePositive();
            notePair(x, -x);
            expected = BEHIND_GAME;
        }

        /** Takes digits and perhaps a denominator; the answer is of no use if there is a fault. */
        private int takePositive() {
            int digitsAt = start;
            int digits = digitsHere();
            if (digits == NONE) {
                wrongAt = start;
                return 0;
            }
            advance();
            if (kind != '/') {
                wrongAt = digits > MAX_EIGHTHS / 8 ? digitsAt : NONE;
                return digits * 8;
            }
            advance();
            int parts = eighthsPerPart();
            if (parts == 0 || digits * parts > MAX_EIGHTHS) {
                wrongAt = start;
                return 0;
            }
            advance();
            return digits * parts;
        }

        /** The one or two digits of this token, or NONE if it is something else. */
        private int digitsHere() {
            int size = end - start;
            if (kind != DIGITS || size > 2 || size == 2 && signs[start] == '0') {
                return NONE;
            }
            int sum = 0;
            for (int i = start; i < end; i++) {
                sum = 10 * sum + (signs[i] - '0');
            }
            return sum;
        }

        /** What one part is for the denominator of this token, or 0 if it is none. */
        private int eighthsPerPart() {
            switch (digitsHere()) {
                case 2:
                    return 4;
                case 4:
                    return 2;
                case 8:
                    return 1;
                default:
                    return 0;
            }
        }

        private void note(int step) {
            if (stepCount < MAX_STEPS) {
                steps[stepCount] = step;
                stepCount++;
            }
        }
    }

    /** Makes games out of others; what it began is left to the caller to take back. */
    private static final class Builder {
        private final Shelf shelf;
        private final long[] lefts = new long[MAX_TEXT];
        private final long[] rights = new long[MAX_TEXT];
        private final boolean[] behindBar = new boolean[MAX_TEXT];
        private final int[] negatives = new int[MAX_GAMES];

        Builder(Shelf shelf) {
            this.shelf = shelf;
        }

        /** Makes the negative of a game, those of its parts first; NONE if there is no room. */
        int negate(int game) {
            long parts = shelf.games[game].parts;
            for (int g = 0; g <= game; g++) {
                if (contains(parts, g)) {
                    int made = negateOne(shelf.games[g]);
                    if (made == NONE) {
                        return NONE;
                    }
                    negatives[g] = made;
                }
            }
            return negatives[game];
        }

        private int negateOne(Game game) {
            if (!game.composed) {
                return shelf.makeNumber(-game.eighths);
            }
            return shelf.compose(negated(game, RIGHT), negated(game, LEFT));
        }

        private long negated(Game game, int side) {
            long set = 0L;
            for (int i = 0; i < game.counts[side]; i++) {
                set |= bit(negatives[game.optionAt(side, i)]);
            }
            return set;
        }

        /** Builds the game of a text without a fault; NONE if that cannot be done. */
        int build(int[] steps, int stepCount) {
            int open = 0;
            int made = NONE;
            for (int k = 0; k < stepCount; k++) {
                int step = steps[k];
                if (step == Text.OPEN && open < MAX_TEXT) {
                    openAt(open);
                    open++;
                } else if (step == Text.BAR && open > 0) {
                    behindBar[open - 1] = true;
                } else {
                    boolean closes = step == Text.CLOSE && open > 0;
                    open -= closes ? 1 : 0;
                    made = closes ? shelf.compose(lefts[open], rights[open]) : shelf.makeNumber(step);
                    if (made == NONE) {
                        return NONE;
                    }
                    giveTo(open - 1, made);
                }
            }
            return made;
        }

        private void openAt(int level) {
            lefts[level] = 0L;
            rights[level] = 0L;
            behindBar[level] = false;
        }

        /** Level -1 is the text itself, whose game is nobody's option. */
        private void giveTo(int level, int game) {
            if (level >= 0 && behindBar[level]) {
                rights[level] |= bit(game);
            } else if (level >= 0) {
                lefts[level] |= bit(game);
            }
        }
    }

    /** Writes games. */
    private static final class Pen {
        private final Shelf shelf;
        final char[] signs = new char[MAX_WRITTEN];
        int length = 0;

        Pen(Shelf shelf) {
            this.shelf = shelf;
        }

        void copyOut(int game) {
            length = 0;
            putGame(game, 0);
        }

        /** The level tells in how many games this one stands: never more than the greatest depth. */
        private void putGame(int g, int level) {
            Game game = shelf.games[g];
            if (!game.composed) {
                putNumber(game.eighths);
                return;
            }
            if (level > MAX_DEPTH) {
                return;
            }
            put('{');
            for (int side = LEFT; side <= RIGHT; side++) {
                for (int i = 0; i < game.counts[side]; i++) {
                    if (i > 0) {
                        put(',');
                    }
                    putGame(game.optionAt(side, i), level + 1);
                }
                put(side == LEFT ? '|' : '}');
            }
        }

        private void putNumber(int eighths) {
            if (eighths < 0) {
                put('-');
            }
            int halved = halvings(eighths);
            int numerator = (eighths < 0 ? -eighths : eighths) >> halved;
            if (numerator >= 10) {
                put((char) ('0' + numerator / 10));
            }
            put((char) ('0' + numerator % 10));
            if (halved < 3) {
                put('/');
                put((char) ('0' + (8 >> halved)));
            }
        }

        private void put(char c) {
            if (length < MAX_WRITTEN) {
                signs[length] = c;
                length++;
            }
        }
    }

    /** The latest saved states, each a row: the number of games, of components, the components. */
    private static final class History {
        private static final int ROWS = 6;
        private static final int ROW = 2 + MAX_COMPONENTS;

        int count = 0;
        private final int[] rows = new int[ROWS * ROW];

        void save(int games, Table table) {
            if (count == ROWS) {
                System.arraycopy(rows, ROW, rows, 0, (ROWS - 1) * ROW);
                count--;
            }
            int at = count * ROW;
            rows[at] = games;
            rows[at + 1] = table.count;
            for (int c = 0; c < MAX_COMPONENTS; c++) {
                rows[at + 2 + c] = table.games[c];
            }
            count++;
        }

        /** Lays the table as it was saved last; returns the number of games of that time. */
        int restore(Table table) {
            if (count > 0) {
                count--;
            }
            int at = count * ROW;
            table.count = rows[at + 1];
            for (int c = 0; c < MAX_COMPONENTS; c++) {
                table.games[c] = rows[at + 2 + c];
            }
            return rows[at];
        }
    }
}

/** What the tests have in common: counting wrong answers and typing texts. */
final class Check {
    static final Class<?> INDEX = IndexOutOfBoundsException.class;
    static final Class<?> ARGUMENT = IllegalArgumentException.class;
    static final Class<?> STATE = IllegalStateException.class;

    interface Call {
        Object run();
    }

    private final String name;
    private int asked = 0;
    private int wrong = 0;

    Check(String name) {
        this.name = name;
    }

    void is(String call, long got, long want) {
        asked++;
        if (got != want) {
            tell(call + " answered " + got + ", due is " + want);
        }
    }

    void is(String call, boolean got, boolean want) {
        is(call, got ? 1 : 0, want ? 1 : 0);
    }

    void is(String call, String got, String want) {
        asked++;
        if (!got.equals(want)) {
            tell(call + " answered '" + got + "', due is '" + want + "'");
        }
    }

    /** The call has to throw just this exception and leave the object as it was. */
    void refused(String call, HotGames x, Class<?> due, Call made) {
        asked++;
        long before = x.checksum();
        String was = look(x);
        try {
            tell(call + " answered " + made.run() + ", due is " + due.getSimpleName());
        } catch (RuntimeException e) {
            if (e.getClass() != due) {
                tell(call + " threw " + e.getClass().getSimpleName() + ", due is " + due.getSimpleName());
            }
        }
        if (x.checksum() != before || !look(x).equals(was)) {
            tell(call + " threw and changed the object");
        }
    }

    void tell(String what) {
        wrong++;
        System.out.println(name + ": " + what);
    }

    void end() {
        System.out.println(name + ": " + asked + " answers, " + wrong + " wrong");
        if (wrong != 0 || asked == 0) {
            System.exit(1);
        }
    }

    /** What the checksum does not tell: the text's fault, the written text and the log. */
    private static String look(HotGames x) {
        return x.fault() + " " + writtenOf(x) + " " + playedOf(x);
    }

    static String writtenOf(HotGames x) {
        StringBuilder all = new StringBuilder();
        for (int i = 0; x.written(i) != HotGames.NONE; i++) {
            all.append((char) x.written(i));
        }
        return all.toString();
    }

    static String playedOf(HotGames x) {
        StringBuilder all = new StringBuilder();
        for (int k = 0; x.played(k) != HotGames.NONE; k++) {
            all.append(k > 0 ? " " : "").append(x.played(k));
        }
        return all.toString();
    }

    static void type(HotGames x, String text) {
        x.clearText();
        for (int i = 0; i < text.length(); i++) {
            x.type(text.charAt(i));
        }
    }

    static int faultOf(HotGames x, String text) {
        type(x, text);
        return x.fault();
    }

    static int read(HotGames x, String text) {
        type(x, text);
        return x.read();
    }

    static String write(HotGames x, int game) {
        x.write(game);
        return writtenOf(x);
    }

    /** Empties the table and lays the games of these texts on it. */
    static void lay(HotGames x, String... texts) {
        while (x.components() > 0) {
            x.remove(0);
        }
        for (String text : texts) {
            x.add(read(x, text));
        }
    }
}

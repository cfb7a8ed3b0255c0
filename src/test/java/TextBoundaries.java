/** The bounds of the notation, of undo and of the checksum: their terms, and promises 30 to 37. */
final class TextBoundaries {
    private static final int NONE = Boundary.NONE;
    private static final int LEFT = Boundary.LEFT;
    private static final int RIGHT = Boundary.RIGHT;
    private static final int MIN = Boundary.MIN;
    private static final int MAX = Boundary.MAX;

    private final Boundary b;

    TextBoundaries(Boundary b) {
        this.b = b;
    }

    void run() {
        buffer();
        names();
        digits();
        denominators();
        numbersUpTo8();
        spaces();
        everyCharacter();
        plusMinusTogether();
        firstWrongToken();
        behindPlus();
        wrongDigits();
        numbersAbove8();
        endsTooEarly();
        lowestIndex();
        namedGames();
        orderOfReading();
        writing();
        typeOutOfRange();
        typeInFullText();
        clearText();
        fault();
        readOfFault();
        readBehindFault();
        readOfFiveOptions();
        readOfDepthSeven();
        readWithoutRoom();
        textStays();
        writeRefused();
        longestWithEveryNumber();
        writtenKept();
        written();
    }

    private void faults(Object... rows) {
        for (int k = 0; k + 1 < rows.length; k += 2) {
            HotGames x = new HotGames();
            String text = (String) rows[k];
            int due = (Integer) rows[k + 1];
            b.is("the fault of '" + text + "'", Check.faultOf(x, text), due);
            boolean read = !Boundary.outcome(x, HotGames::read).equals("IllegalArgumentException");
            b.is("read takes '" + text + "'", read, due == NONE);
        }
    }

    // ---- terms

    private void buffer() {
        b.sentence(0, "The text buffer holds at most 80 characters with codes from 32 to 126.");
        HotGames x = new HotGames();
        for (int k = 1; k <= 80; k++) {
            b.is("character " + k, x.type(k == 80 ? '0' : ' '), k);
        }
        b.is("all of them count", x.fault(), NONE);
        b.is("the game of 79 spaces and 0", x.read(), 0);
        b.refused("character 81", Check.STATE, Boundary.typed(" ".repeat(80)), y -> y.type(' '));
        for (int c = 32; c <= 126; c++) {
            int code = c;
            b.is("code " + c, new HotGames().type(code), 1);
        }
        b.refused("code 31", Check.ARGUMENT, y -> y.type(31));
        b.refused("code 127", Check.ARGUMENT, y -> y.type(127));
    }

    private void names() {
        b.sentence(0, "A name is one of star, up, down.");
        faults("star", NONE, "up", NONE, "down", NONE, "sta", 0, "stars", 0, "u", 0, "upp", 0, "dow", 0, "downs", 0,
            "STAR", 0, "Up", 0, "zero", 0, "rats", 0, "updown", 0, "s", 0, "{star|stars}", 6, "upz", 0, "upa", 0,
            "ztar", 0, "stat", 0, "xp", 0, "town", 0, "dowm", 0, "az", 0);
    }

    private void digits() {
        b.sentence(0, "Digits are one or two digits; the first of two is not 0.");
        faults("0", NONE, "9/2", NONE, "10/2", NONE, "16/2", NONE, "00", 0, "01", 0, "09/8", 0, "010/8", 0,
            "100/8", 0, "000", 0, "-01", 1, "+-08", 2, "0/2", NONE, "{10/4|00}", 6);
    }

    private void denominators() {
        b.sentence(0, "A denominator is 2, 4 or 8 (fractions need not be in lowest terms).");
        faults("1/0", 2, "1/1", 2, "1/2", NONE, "1/3", 2, "1/4", NONE, "1/5", 2, "1/6", 2, "1/7", 2, "1/8", NONE,
            "1/9", 2, "1/16", 2, "1/02", 2, "1/20", 2, "1/84", 2, "2/2", NONE, "4/8", NONE, "64/8", NONE, "1/up", 2,
            "1/-2", 2);
        HotGames x = new HotGames();
        b.is("2/2", Check.read(x, "2/2"), 1);
        b.is("16/8", Check.read(x, "16/8"), 6);
        b.is("0/8", Check.read(x, "0/8"), 0);
        b.is("6/8 and 3/4", Check.read(x, "6/8"), Check.read(x, "3/4"));
    }

    private void numbersUpTo8() {
        b.sentence(0, "A number has to be from -8 to 8.");
        faults("8", NONE, "-8", NONE, "9", 0, "-9", 1, "8/2", NONE, "16/2", NONE, "-16/2", NONE, "17/2", 3,
            "-17/2", 4, "32/4", NONE, "33/4", 3, "64/8", NONE, "65/8", 3, "-65/8", 4, "+-8", NONE, "+-9", 2,
            "+-64/8", NONE, "+-65/8", 5);
        HotGames x = new HotGames();
        b.is("64/8", x.value(Check.read(x, "64/8")), 8192);
        b.is("-64/8", x.value(Check.read(x, "-64/8")), -8192);
        b.is("+-8 has both", x.temperature(Check.read(x, "+-8")), 8192);
    }

    private void spaces() {
        b.sentence(0,
            "Spaces may stand before, between and after the tokens, which are the names (sequences of letters a"
            + " to z, as long as possible), digits (as long as possible), and the single characters + - / { | } and , (a"
            + " comma)");
        faults(" 0", NONE, "0 ", NONE, "  star  ", NONE, "- 1", NONE, "1 / 2", NONE, " - 16 / 2 ", NONE,
            "+-  8", NONE, " { 0 , star | up } ", NONE, " { | } ", NONE, "{ -1/ 2 | +- 1 /8 }", NONE, "1 6/2", 2,
            "st ar", 0, "u p", 0, "1 2", 2, "1/1 6", 2, "star0", 4, "0star", 1, "upup", 0, "up up", 3, "{0 1|}", 3);
        faults("@", 0, "`", 0, "{0|z}", 3, "[", 0, "A", 0, ":", 0, "{0|/}", 3, ".", 0, "~", 0, "*", 0, "1:", 1);
    }

    private void everyCharacter() {
        b.sentence(0, "or of a character that begins no token");
        for (char c = 32; c <= 126; c++) {
            boolean begins = c == '+' || c == '-' || c == '{' || c == ' ';
            boolean digit = c >= '0' && c <= '8';
            faults("" + c, begins ? 1 : digit ? NONE : 0);
            faults(" {" + c, begins || digit || c == '|' ? 3 : 2);
            faults("{|} " + c, c == ' ' ? NONE : 4);
            faults("1/" + c, c == '2' || c == '4' || c == '8' ? NONE : c == ' ' ? 3 : 2);
        }
    }

    private void plusMinusTogether() {
        b.sentence(0, "no space may stand between \"+\" and \"-\"");
        faults("+-1", NONE, " +-1", NONE, "+- 1", NONE, "+ -1", 1, "+  -1", 1, "{+ -1|}", 2, "+", 1, "+ ", 1);
    }

    private void firstWrongToken() {
        b.sentence(0,
            "The fault of the text is the index of the first character of the first token that is not allowed at"
            + " its place, or of a character that begins no token.");
        faults("}", 0, "|", 0, ",", 0, "/", 0, "/2", 0, "1/2/2", 3, "1|2", 1, "1,2", 1, "1}", 1, "1{", 1, "1+", 1,
            "1-", 1, "1 star", 2, "star{", 4, "--1", 1, "-star", 1, "-up", 1, "-{|}", 1, "-+-1", 1, "+--1", 2,
            "+-star", 2, "+-{|}", 2);
        faults("{}", 1, "{,|}", 1, "{0,|}", 3, "{0,,1|}", 3, "{0}", 2, "{||}", 2, "{|,}", 2, "{|0,}", 4, "{|0|}", 3,
            "{|}}", 3, "{|}0", 3, "{|}{|}", 3, "{{|}", 4, "{{|}}", 4, "{0|1};", 5, "{0 |1 } ?", 8, "!", 0,
            "   !", 3);
    }

    private void behindPlus() {
        b.sentence(0, "Directly behind \"+\" a \"-\" has to follow (otherwise the fault is the index behind \"+\").");
        faults("+", 1, "++", 1, "+1", 1, "+star", 1, "+ ", 1, "+ -1", 1, "+!", 1, "{0|+", 4, "{0|+}", 4, "  +", 3,
            "  + -", 3);
        faults(" ".repeat(79) + "+", 80, " ".repeat(78) + "+-", 80, " ".repeat(77) + "+-0", NONE);
    }

    private void wrongDigits() {
        b.sentence(0, "Digits that are more than two, or two with a first 0, are a fault at the digits.");
        faults("100", 0, "000/2", 0, "123", 0, "-100", 1, "+-100", 2, "{1|100}", 3, "00", 0, "05", 0, "05/8", 0,
            "-00", 1, "1/008", 2, "1/08", 2, "1/100", 2, "1".repeat(80), 0, "{ 012", 2, "99/8", 3);
    }

    private void numbersAbove8() {
        b.sentence(0, "A number without a denominator that is greater than 8 is a fault at its digits, one with a"
            + " denominator that is greater than 8 a fault at its denominator.");
        faults("9", 0, " 9", 1, "-9", 1, "- 9", 2, "+-9", 2, "10", 0, "99", 0, "9 ", 0, "9}", 0, "{9|}", 1,
            "{0,10|}", 3);
        faults("9/2", NONE, "17/2", 3, "17 / 2", 5, "33/4", 3, "65/8", 3, "99/8", 3, "-17/2", 4, "+-65/8", 5,
            "{17/2", 4);
        faults("10/", 3, "10/3", 3, "10/x", 3, "99/ ", 4);
    }

    private void endsTooEarly() {
        b.sentence(0, "The fault is the length of the text if the text ends too early.");
        faults("", 0, " ", 1, "-", 1, "+-", 2, "1/", 2, "{", 1, "{0", 2, "{0,", 3, "{0|", 3, "{0|1", 4, "{0|1,", 5,
            "{|", 2, "{{|}|", 5, "{{|}|{|}", 8, "- ", 2, "{ ", 2, "{0|1 ", 5, "1 / ", 4, "{-", 2, "{|+-", 4);
        faults(" ".repeat(80), 80, "{".repeat(80), 80, "{|".repeat(40), 80, "{0," + " ".repeat(77), 80);
        faults("{|".repeat(26) + "}".repeat(25), 77, "{|".repeat(26) + "}".repeat(26), NONE);
    }

    private void lowestIndex() {
        b.sentence(0, "If there are several, the lowest index counts.");
        faults("9!", 0, "!9", 0, "00 00", 0, "{9|9", 1, "{1|9", 3, "17/2 9", 3, "stars stars", 0, "}{", 0, "+ +", 1,
            "1 !", 2, "{100|!", 1, "9 /3", 3, "9/3!", 2);
    }

    private void namedGames() {
        b.sentence(0,
            "star is the game with the left option 0 and the right option 0, up has the left option 0 and the"
            + " right option star, down the left option star and the right option 0, and +-x has the left option x and"
            + " the right option -x.");
        HotGames x = new HotGames();
        b.is("star", Check.write(x, Check.read(x, "star")), "{0|0}");
        b.is("up", Check.write(x, Check.read(x, "up")), "{0|{0|0}}");
        b.is("down", Check.write(x, Check.read(x, "down")), "{{0|0}|0}");
        b.is("+-0", Check.read(x, "+-0"), 3);
        b.is("+-1", Check.read(x, "+-1"), 5);
        b.is("+-8", Check.write(x, Check.read(x, "+-8")), "{8|-8}");
        b.is("+-1/8", Check.write(x, Check.read(x, "+-1/8")), "{1/8|-1/8}");
    }

    private void orderOfReading() {
        b.sentence(0, "To read the text, the games that it needs are made, each one when it is complete, from left to"
            + " right; for star the game 0 is made before it, for up and down the games 0 and star, for +-x the games x"
            + " and -x. The last one made is the game of the text.");
        HotGames x = new HotGames();
        b.is("a text", Check.read(x, "{{4|3},down,+-3/2|5,{|-5}}"), 20);
        String[] due = {"4", "3", "{4|3}", "{{0|0}|0}", "3/2", "-3/2", "{3/2|-3/2}", "5", "-5", "{|-5}"};
        for (int k = 0; k < due.length; k++) {
            b.is("game " + (10 + k), Check.write(x, 10 + k), due[k]);
        }
        b.is("a game that was there before", Check.read(x, "{2|0}"), 7);
        b.is("the parts of the last one come first", Check.read(x, "{|{|6}}"), 23);
        b.is("games", x.games(), 24);
    }

    private void writing() {
        b.sentence(0,
            "a number as an integer or as p/q in lowest terms, with \"-\" if it is negative; a composed game as"
            + " \"{\", its left options, \"|\", its right options, \"}\", with \",\" between two options, in the order of"
            + " their numbers, without spaces");
        String[] due = {"0", "1", "8", "-8", "1/8", "-1/8", "63/8", "-63/8", "1/4", "31/4", "-31/4", "1/2", "15/2",
            "-15/2"};
        for (String text : due) {
            HotGames x = new HotGames();
            int game = Check.read(x, text);
            b.is("the length of " + text, x.write(game), text.length());
            b.is("the number " + text, Check.writtenOf(x), text);
        }
        for (int n = -64; n <= 64; n++) {
            HotGames x = new HotGames();
            b.is(n + " eighths", Check.write(x, x.number(n)), numberText(n));
        }
        String[] games = {"{{{{{{|}|}|}|}|}|}", "{|{|{|{|{|{|-63/8}}}}}}", "{|}", "{0|}", "{|0}", "{0|0}",
            "{0,1,-1,2|0,1,-1,2}", "{-8,-63/8|63/8,8}", "{{|},{{|}|}|}"};
        for (String text : games) {
            HotGames x = new HotGames();
            b.is("the game " + text, Check.write(x, Check.read(x, text)), text);
        }
        HotGames x = new HotGames();
        b.is("4/8", Check.write(x, Check.read(x, "4/8")), "1/2");
        b.is("in the order of their numbers", Check.write(x, Check.read(x, "{ 2 , 0 , 2 | 1 , star , 0 }")),
            "{0,2|0,1,{0|0}}");
    }

    private static String numberText(int eighths) {
        int p = Math.abs(eighths);
        int q = 8;
        while (q > 1 && p % 2 == 0) {
            p /= 2;
            q /= 2;
        }
        return (eighths < 0 ? "-" : "") + p + (q > 1 ? "/" + q : "");
    }

    // ---- promises

    private void typeOutOfRange() {
        b.sentence(30, "Throws `IllegalArgumentException` if c is out of range");
        b.is("type(32)", new HotGames().type(32), 1);
        b.is("type(126)", new HotGames().type(126), 1);
        for (int c : new int[] {31, 127, 0, -1, 128, 255, 256 + 48, 65536 + 48, -65536 + 48, MIN, MIN + 48, MAX}) {
            b.refused("type(" + c + ")", Check.ARGUMENT, Boundary.typed("{0"), x -> x.type(c));
            b.refused("type(" + c + ") in a full text", Check.ARGUMENT, Boundary.typed("0".repeat(80)),
                x -> x.type(c));
        }
    }

    private void typeInFullText() {
        b.sentence(30, "Throws `IllegalStateException` if the text has 80 characters");
        b.is("character 80", Boundary.made(Boundary.typed("0".repeat(79))).type('}'), 80);
        for (int c : new int[] {32, 48, 126}) {
            b.refused("character 81", Check.STATE, Boundary.typed(" ".repeat(79) + "0"), x -> x.type(c));
        }
        HotGames x = Boundary.made(Boundary.typed(" ".repeat(80)));
        x.clearText();
        b.is("a full text that was emptied", x.type('0'), 1);
    }

    private void clearText() {
        b.sentence(31, "Returns the length that it had.");
        HotGames x = new HotGames();
        b.is("empty", x.clearText(), 0);
        Check.type(x, "0");
        b.is("one character", x.clearText(), 1);
        Check.type(x, "~".repeat(80));
        b.is("full", x.clearText(), 80);
        b.is("empty again", x.clearText(), 0);
        b.is("the fault of the empty text", x.fault(), 0);
    }

    private void fault() {
        b.sentence(32, "Returns the fault, an index from 0; NONE if the text is the notation of a game.");
        faults("!", 0, "", 0, "0", NONE, "{|}", NONE, " ".repeat(79) + "8", NONE, " ".repeat(79) + "9", 79);
        // what cannot be read for other reasons is a notation all the same
        faults("{0,1,2,3,4|}", NONE, "{{{{{{{|}|}|}|}|}|}|}", NONE, "{" + "1,".repeat(38) + "1|}", NONE);
        HotGames x = Boundary.made(Boundary.full(40));
        b.is("a game for which there is no room", Check.faultOf(x, "-8"), NONE);
    }

    private void readOfFault() {
        b.sentence(33, "Throws `IllegalArgumentException` if the text has a fault");
        String[] texts = {"", " ", "!", "{0|0", "9", "65/8", "+ -1", "{3,4,5|!}"};
        for (String text : texts) {
            b.refused("read '" + text + "'", Check.ARGUMENT, Boundary.typed(text), HotGames::read);
        }
        b.refused("a fault behind five options", Check.ARGUMENT, Boundary.typed("{0,1,2,3,4|}}"), HotGames::read);
        b.refused("a fault behind depth 7", Check.ARGUMENT, Boundary.typed("{{{{{{{|}|}|}|}|}|}|}0"), HotGames::read);
        Boundary.Setup full = Boundary.both(Boundary.full(40), Boundary.typed("{-8|-7"));
        b.refused("a fault where there are 40 games", Check.ARGUMENT, full, HotGames::read);
    }

    private void readBehindFault() {
        b.sentence(33, "Returns the number of the game of the text.");
        HotGames x = new HotGames();
        b.is("a fault behind a number", Check.faultOf(x, "{3|4!"), 4);
        b.is("another text", Check.read(x, "1"), 1);
        b.is("it makes no more than it needs", x.games(), 10);
        b.is("a notation that is not read", Check.faultOf(x, "{3|4}"), NONE);
        b.is("another text", Check.read(x, "-1"), 2);
        b.is("it makes no more than it needs", x.games(), 10);
    }

    private void readOfFiveOptions() {
        b.sentence(33,
            "Throws `IllegalStateException` if a game would have more than 4 options on a side, or a depth greater"
            + " than 6, or if more than 40 games would be needed");
        b.is("four options", Check.read(new HotGames(), "{0,1,-1,2|2,-1,1,0}"), 10);
        b.is("five options of which two are the same", Check.read(new HotGames(), "{0,1,-1,2,4/4|}"), 10);
        String[] texts = {"{0,1,-1,2,star|}", "{|0,1,-1,2,3}", "{{3,4,5,6,7|}|}", "{0|{|3,4,5,6,7}}",
            "{3,4,5,6,{7|}|0}"};
        for (String text : texts) {
            b.refused("read '" + text + "'", Check.STATE, Boundary.typed(text), HotGames::read);
        }
    }

    private void readOfDepthSeven() {
        HotGames x = new HotGames();
        b.is("depth 6 on the left", x.depth(Check.read(x, "{{{{{{|}|}|}|}|}|}")), 6);
        b.is("depth 6 on the right", x.depth(Check.read(x, "{|{|{|{|{|{|}}}}}}")), 6);
        b.is("depth 6 of a name", x.depth(Check.read(x, "{{{{up|}|}|}|}")), 6);
        b.is("depth 6 of a switch", x.depth(Check.read(x, "{{{{{+-1|}|}|}|}|}")), 6);
        String[] texts = {"{{{{{{{|}|}|}|}|}|}|}", "{|{|{|{|{|{|{|}}}}}}}", "{{{{{up|}|}|}|}|}",
            "{0|{{{{{+-3|}|}|}|}|}}"};
        for (String text : texts) {
            b.refused("read '" + text + "'", Check.STATE, Boundary.typed(text), HotGames::read);
        }
    }

    private void readWithoutRoom() {
        b.is("the 40th game", Check.read(Boundary.made(Boundary.full(39)), "-8"), 39);
        b.is("three games where there are 37", Check.read(Boundary.made(Boundary.full(37)), "{-8|-7}"), 39);
        b.is("two games where there are 38", Check.read(Boundary.made(Boundary.full(38)), "{-8|8}"), 39);
        for (int games = 38; games <= 40; games++) {
            Boundary.Setup setup = Boundary.both(Boundary.full(games), Boundary.typed("{-8|-7}"));
            b.refused("three games where there are " + games, Check.STATE, setup, HotGames::read);
        }
        for (String text : new String[] {"-8", "down", "+-8", "{|}"}) {
            Boundary.Setup setup = Boundary.both(Boundary.full(40), Boundary.typed(text));
            b.refused("read '" + text + "' where there are 40", Check.STATE, setup, HotGames::read);
        }
        HotGames x = Boundary.made(Boundary.full(40));
        b.is("games that are there already", Check.read(x, "{0,star|0}"), 9);
        b.is("the last game", Check.read(x, "35/8"), 39);
        b.is("up", Check.read(x, "up"), 4);
    }

    private void textStays() {
        b.sentence(33, "Reads the text, which stays. Undoable.");
        HotGames x = new HotGames();
        b.is("read", Check.read(x, "{3|4}"), 12);
        b.is("read again", x.read(), 12);
        b.is("type on", x.type(' '), 6);
        b.is("read once more", x.read(), 12);
        b.is("each is saved", x.undo(), 2);
        x.undo();
        b.is("the games of the first are there yet", x.games(), 13);
        x.undo();
        b.is("and gone with it", x.games(), 10);
        b.is("the text is there yet", x.clearText(), 6);
    }

    private void writeRefused() {
        b.sentence(34, "Throws `IndexOutOfBoundsException` if there is no such game");
        Boundary.Setup kept = x -> x.write(8);
        b.gameRefused("write", kept, (x, game) -> x.write(game));
        b.vanishedGameRefused("write", (x, game) -> x.write(game));
        b.sentence(34, "Throws `IllegalStateException` if it would be longer than 400 characters");
        Boundary.Setup wide = Boundary.both(kept, x -> wide(x));
        HotGames x = Boundary.made(wide);
        int last = x.games() - 1;
        b.is("400 characters", x.write(last - 2), 400);
        b.is("the last of them", x.written(399), '}');
        b.is("none behind it", x.written(400), NONE);
        b.refused("401 characters", Check.STATE, wide, y -> y.write(last - 1));
        b.refused("a game of both", Check.STATE, wide, y -> y.write(last));
        b.refused("401 behind 400 characters", Check.STATE, Boundary.both(wide, y -> y.write(last - 2)),
            y -> y.write(last - 1));
    }

    /** The last three games are written with 400, 401 and 804 characters. */
    private static void wide(HotGames x) {
        String first = "{1/2,3/2,5/2,7/2|}";
        String second = "{1/2,3/2,5/2,7/2|1,2,3,-4}";
        Check.read(x, first);
        Check.read(x, second);
        int[] parts = new int[9];
        parts[0] = Check.read(x, "{" + first + "|" + second + "}");
        String[] ends = {"0", "1", "2", "3", "4", "5", "-1", "-2"};
        for (int k = 0; k < 8; k++) {
            parts[k + 1] = Check.read(x, "{" + first + "|" + second + "," + ends[k] + "}");
        }
        int fits = eight(x, parts, 6);
        int tooLong = eight(x, parts, 8);
        x.draft(LEFT, fits);
        x.draft(RIGHT, tooLong);
        x.make();
    }

    private static int eight(HotGames x, int[] parts, int sixth) {
        for (int k = 0; k < 8; k++) {
            x.draft(k / 4, parts[k == 6 ? sixth : k]);
        }
        return x.make();
    }

    /** Fillers whose lengths are known bring the text of a game with any number to 400 characters and to 401. */
    private void longestWithEveryNumber() {
        // a filler with the ends e and f has 49 characters and theirs
        int[][] fixed = {{0, -11}, {8, -11}, {40, -11}, {-8, -2}, {-8, -11}, {-24, -11}};
        int[][] last = {{0, -2}, {16, -11}, {2, -2}, {2, -11}, {-2, -11}, {-11, -13}};
        for (int n = -64; n <= 64; n++) {
            HotGames x = new HotGames();
            int number = x.number(n);
            int[] four = {4, 12, 20, 28};
            int oneSided = n % 2 == 0 ? makeOf(x, four) : makeOf(x, new int[0], four);
            int[] bases = {oneSided, makeOf(x, four, 8, 16, 24, -32)};
            int[] fillers = new int[6];
            for (int k = 0; k < 6; k++) {
                fillers[k] = filler(x, bases, fixed[k]);
            }
            int rest = 5 - numberText(n).length();
            int fits = widest(x, number, fillers, filler(x, bases, last[rest]));
            int tooLong = widest(x, number, fillers, filler(x, bases, last[rest + 1]));
            b.is("400 characters with " + numberText(n), x.write(fits), 400);
            b.is("401 characters with " + numberText(n), Boundary.outcome(x, y -> y.write(tooLong)),
                "IllegalStateException");
        }
    }

    private static int makeOf(HotGames x, int[] left, int... right) {
        for (int n : left) {
            x.draft(LEFT, x.number(n));
        }
        for (int n : right) {
            x.draft(RIGHT, x.number(n));
        }
        return x.make();
    }

    private static int filler(HotGames x, int[] bases, int[] ends) {
        x.draft(LEFT, bases[0]);
        x.draft(RIGHT, bases[1]);
        x.draft(RIGHT, x.number(ends[0]));
        x.draft(RIGHT, x.number(ends[1]));
        return x.make();
    }

    private static int widest(HotGames x, int number, int[] fillers, int last) {
        x.draft(LEFT, number);
        x.draft(RIGHT, last);
        for (int k = 0; k < 6; k++) {
            x.draft(k / 3, fillers[k]);
        }
        return x.make();
    }

    private void writtenKept() {
        b.sentence(34, "Writes a game; the written text is kept until the next call that ends normally.");
        HotGames x = new HotGames();
        x.write(8);
        b.is("the written text", Check.writtenOf(x), "{{2|0}|-1}");
        b.is("is kept while it is asked for", Check.writtenOf(x), "{{2|0}|-1}");
        b.is("a call that throws", Boundary.outcome(x, y -> y.write(10)), "IndexOutOfBoundsException");
        b.is("keeps it", Check.writtenOf(x), "{{2|0}|-1}");
        b.is("the next call that ends normally", x.write(0), 1);
        b.is("replaces it", Check.writtenOf(x), "0");
    }

    private void written() {
        b.sentence(35, "Returns its code; NONE if there is no such character.");
        HotGames x = new HotGames();
        b.is("nothing is written", x.written(0), NONE);
        x.write(5);
        int[] due = {'{', '1', '|', '-', '1', '}'};
        for (int i = 0; i < due.length; i++) {
            b.is("character " + i, x.written(i), due[i]);
        }
        for (int i : new int[] {-1, 6, 7, 399, 400, 401, 65536, MIN, MAX}) {
            b.is("character " + i, x.written(i), NONE);
        }
    }
}

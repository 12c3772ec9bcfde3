/** Promises 1 to 5: a new object, feed, book, fault, where. */
public final class BookTest {
    static final String BAR = "bar long 2 wide 3";
    static final String WATER = "water 10 pulls 20 shield 30 flow 4 swell 5";
    static final String KINDS = "kind raw hard 0 room 0 bears 9;kind glass hard 90 room 20 bears 10";
    static final String WHOLE_BOOK = BAR + ";" + WATER + ";" + KINDS;

    private static final Check CHECK = new Check("BookTest");

    public static void main(String[] args) {
        newObject();
        tape();
        books();
        form();
        names();
        bounds();
        many();
        lacks();
        whereAndFault();
        CHECK.end();
    }

    private static void newObject() {
        TwoMinds x = new TwoMinds();
        CHECK.due("trouble of a new object", x.trouble(), 0);
        CHECK.due("fault of a new object", x.fault(), 0);
        CHECK.due("where of a new object", x.where(), -1);
        for (int what = 0; what <= 12; what++) {
            CHECK.due("size(" + what + ") of a new object", x.size(what), 0);
        }
        CHECK.due("layer(0) without a book", x.layer(0), -1);
        CHECK.due("cell without a book", x.cell(0, 0, 0), -1);
        CHECK.noneLed(x, 0);
        CHECK.due("heat", x, x.heat(100), false, 1);
        CHECK.due("clay", x, x.clay(0, 0, 0), false, 1);
        CHECK.due("go", x, x.go(1), -1, 1);
        CHECK.due("again", x, x.again(0), false, 1);
        CHECK.due("pull", x, x.pull(0, 0), Long.MIN_VALUE, 1);
        CHECK.due("curve", x, x.curve(0), Integer.MIN_VALUE, 1);
        CHECK.due("bend", x, x.bend(0), Integer.MIN_VALUE, 1);
        CHECK.due("crack", x, x.crack(0), -1, 1);
        CHECK.due("cold", x, x.cold(), -1, 1);
        CHECK.due("cloud", x, x.cloud(0, 0), -1, 1);
        CHECK.due("chip", x, x.chip(0, 0), -1, 1);
        CHECK.due("aim", x, x.aim(0, 0, 0), -1, 1);
        CHECK.due("scatter", x, x.scatter(0, 0, 0), -1, 1);
        CHECK.due("lowers", x, x.lowers(0, 0, 0), -1, 1);
        CHECK.due("why", x, x.why(0), -1, 1);
        CHECK.due("lay", x, x.lay(0, 0), false, 1);
        CHECK.due("fold", x, x.fold(1), -1, 1);
        CHECK.due("even", x, x.even(0), -1, 1);
        CHECK.due("colour", x, x.colour(0, 0), -1, 1);
        CHECK.due("eye", x, x.eye(0, 0, 0, 0, 0), -1, 1);
        CHECK.due("polish", x, x.polish(0), -1, 1);
        CHECK.due("stones", x, x.stones(0), -1, 1);
        CHECK.due("whose", x, x.whose(0), -1, 1);
        CHECK.due("odds", x, x.odds(-1, 0), Long.MIN_VALUE, 1);
        CHECK.due("learn", x, x.learn(0, 0, 0, 0), -1, 1);
        CHECK.due("next", x, x.next(), -1, 1);
    }

    private static void tape() {
        TwoMinds x = new TwoMinds();
        for (int k = 1; k <= 35; k++) {
            CHECK.due("feed " + k, x.feed(k, -1, 0, 0, 0), 20 * k);
        }
        CHECK.due("the 36th feed", x.feed(0, 0, 0, 0, 0), -1);
        CHECK.due("a feed that is refused tells no trouble", x.trouble(), 0);
        CHECK.due("bytes of the tape", x.size(11), 700);
        CHECK.due("book(701)", x, x.book(701), -1, 2);
        CHECK.due("book(-1)", x, x.book(-1), -1, 2);
        CHECK.due("the tape stays by 2", x.size(11), 700);
        CHECK.due("book(700)", x, x.book(700), -1, 4);
        CHECK.due("the tape is empty by 4", x.size(11), 0);

        TwoMinds longest = new TwoMinds();
        StringBuilder text = new StringBuilder(WHOLE_BOOK);
        while (text.length() < 700) {
            text.append(' ');
        }
        CHECK.due("a book of 700 bytes", Check.book(longest, text.toString()), 2);
        CHECK.due("the tape is empty then", longest.size(11), 0);
        Check.feed(longest, WHOLE_BOOK + ";???");
        CHECK.due("the first bytes alone are read", longest, longest.book(WHOLE_BOOK.length()), 2, 0);
        CHECK.due("all of the tape is gone", longest.size(11), 0);
    }

    private static void books() {
        TwoMinds x = new TwoMinds();
        String spaced = "  bar long1wide 2 ;water 0 pulls 1 shield 0 flow 0 swell 0;" + KINDS
            + " ; turn glass below 100 drop 0;red raws 100 to 100;stone s days 20 shows 7 ,0"
            + ";smith hard 9,1,1,1,1,1,1,009 ";
        CHECK.due("a spaced book", x, Check.book(x, spaced), 2, 0);
        CHECK.due("its fault", x.fault(), 0);
        CHECK.due("its place", x.where(), -1);
        int[] sizes = {1, 2, 2, 1, 1, 1, 1, 0, 0, 0, 0, 0, 4, -1};
        for (int what = 0; what < sizes.length; what++) {
            CHECK.due("size(" + what + ")", x.size(what), sizes[what]);
        }
        CHECK.due("size(-1)", x.size(-1), -1);
        x.heat(900);
        x.clay(0, 0, 2);
        x.go(3);
        x.lay(8, 50);
        x.learn(1, 1, 1, 1);
        CHECK.due("a faulty book", x, Check.book(x, "bar"), -1, 4);
        CHECK.due("the bar stays then", x.size(7), 3);
        CHECK.due("what is learned stays then", x.size(10), 1);
        CHECK.due("another book", x, Check.book(x, WHOLE_BOOK), 2, 0);
        CHECK.due("tenth", x.size(7), 0);
        CHECK.due("heat", x.cell(0, 0, 0), 0);
        CHECK.due("clay", x.cell(0, 0, 2), 0);
        CHECK.due("carbon", x.layer(8), 0);
        CHECK.due("learned", x.size(10), 0);
        CHECK.due("long", x.size(0), 2);
        CHECK.due("wide", x.size(1), 3);
        CHECK.due("smiths of the older book are gone", x.size(6), 0);
        CHECK.due("stones of the older book are gone", x.size(5), 0);
    }

    private static void form() {
        fault("", 1, 0);
        fault("   ", 1, 3);
        fault("bar", 1, 3);
        fault("bar  ", 1, 5);
        fault("barlong 1 wide 2", 1, 0);
        fault("Bar long 1 wide 2", 1, 0);
        fault("bar long 1\twide 2", 1, 10);
        fault("bar long 1 wide 2:", 1, 17);
        fault("bar long 1 wide 2;", 1, 18);
        fault("bar long 1 wide 2; ", 1, 19);
        fault("bar long 1 wide 2;;", 1, 18);
        fault("bar long 1 wide 2,", 1, 17);
        fault("bar long 1 wide 2 water", 1, 18);
        fault(";", 1, 0);
        fault("5", 1, 0);
        fault("steel", 1, 0);
        fault("bar long one", 1, 9);
        fault("car long 1 wide 2", 1, 0);
        fault("bar long 1 side 2", 1, 11);
        fault("kind zinc hard 0 room 0 bears 1;kind azinc hard 0 room 0 bears 1;kind zinc", 3, 70);
        fault("bar long 1 long 2", 1, 11);
        fault("bar long 0001", 1, 9);
        fault("bar long 9999", 1, 9);
        fault("bar long 1 wide " + (char) 233, 1, 16);
        fault("kind abcdefghi hard", 1, 5);
        fault("kind abcdefgh hard", 1, 18);
        fault("kind 5", 1, 5);
        fault("kind ;", 1, 5);
        fault("red r 100 to", 1, 12);
        fault("red r 100 , 200", 1, 10);
        fault("stone s days 3 shows", 1, 20);
        fault("stone s days 3 shows 1,", 1, 23);
        fault("stone s days 3 shows 1,,", 1, 23);
        fault("stone s days 3 shows 1 2", 1, 23);
        fault("smith s", 1, 7);
        fault("smith s 1,a", 1, 10);
        fault("smith s 1,1,1,1,1,1,1,1,", 1, 24);
        fault("smith s 1,1,1,1,1,1,1,1,x", 1, 24);
        for (String word : new String[] {"bar", "water", "kind", "turn", "red", "stone", "smith"}) {
            fault("kind " + word + " hard 0", 1, 5);
            fault("smith " + word + " 1", 1, 6);
            fault("turn " + word + " below", 1, 5);
        }
    }

    private static void names() {
        String kind = "kind a hard 0 room 0 bears 1;";
        fault(kind + "turn b below 100", 2, kind.length() + 5);
        fault(kind + "turn a below 100", 2, kind.length() + 5);
        fault("red r 100 to 200;turn r below 100", 2, 22);
        fault(kind + "kind a hard", 3, kind.length() + 5);
        fault(kind + "red a 100", 3, kind.length() + 4);
        fault(kind + "stone a days", 3, kind.length() + 6);
        fault("smith s 1;stone s", 3, 16);
        fault("stone s days 1 shows 3,1,03", 3, 25);
        fault(BAR + ";" + BAR, 3, 18);
        fault(BAR + ";bar long 99", 3, 18);
        fault(WATER + "; water", 3, WATER.length() + 2);
        fault("red r 100 to 200;red r 5", 3, 21);
    }

    private static void bounds() {
        bound("bar long ", 1, 8, " wide");
        bound("bar long 8 wide ", 2, 5, "");
        bound("water ", 0, 99, " pulls");
        bound("water 0 pulls ", 1, 50, " shield");
        bound("water 0 pulls 1 shield ", 0, 60, " flow");
        bound("water 0 pulls 1 shield 0 flow ", 0, 12, " swell");
        bound("water 0 pulls 1 shield 0 flow 0 swell ", 0, 50, "");
        bound("kind a hard ", 0, 99, " room");
        bound("kind a hard 0 room ", 0, 50, " bears");
        bound("kind a hard 0 room 0 bears ", 1, 999, "");
        bound(KINDS + ";turn glass below ", 100, 900, " drop");
        bound(KINDS + ";turn glass below 100 drop ", 0, 400, "");
        bound("red r ", 100, 999, " to");
        bound("red r 500 to ", 500, 999, "");
        bound("stone s days ", 1, 20, " shows");
        bound("stone s days 1 shows ", 0, 7, "");
        bound("stone s days 1 shows 3,", 0, 2, "");
        bound("smith s ", 1, 9, "");
        bound("smith s 1,", 1, 9, "");
        fault("smith s 1,1,1,1,1,1,1,1,0", 4, 24);
        fault("smith s 1,1,1,1,1,1,1,1,10", 4, 24);
    }

    /** Numbers at both ends go on; those beside them are faults at their place. */
    private static void bound(String ahead, int least, int most, String behind) {
        for (int whole : new int[] {least, most}) {
            TwoMinds x = new TwoMinds();
            String text = ahead + whole + behind;
            CHECK.due(text, x, Check.book(x, text), -1, 4);
            CHECK.due("the place of " + text, x.where(), text.length());
        }
        if (least > 0) {
            fault(ahead + (least - 1) + behind, 4, ahead.length());
        }
        if (most < 999 && !ahead.endsWith("3,")) {
            fault(ahead + (most + 1) + behind, 4, ahead.length());
        }
    }

    private static void many() {
        manyOf("kind #a hard 0 room 0 bears 1", 5, "");
        manyOf("turn glass below 100 drop 0", 6, KINDS + ";");
        manyOf("red #a 100 to 200", 6, "");
        manyOf("stone #a days 1 shows 0", 6, "");
        manyOf("smith #a 1,2", 5, "");
        fault("smith s 1,1,1,1,1,1,1,1,1", 5, 24);
    }

    private static void manyOf(String line, int most, String ahead) {
        StringBuilder text = new StringBuilder(ahead);
        for (int k = 0; k <= most; k++) {
            if (k > 0) {
                text.append(';');
            }
            if (k == most) {
                fault(text.toString(), 1, text.length());
                fault(text + line.substring(0, line.indexOf(' ')), 5, text.length());
                fault(text + line.replace('#', 'x'), 5, text.length());
            }
            text.append(line.replace('#', (char) ('a' + k)));
        }
        fault(text.substring(0, text.lastIndexOf(";")), 6, text.lastIndexOf(";"));
    }

    private static void lacks() {
        fault(BAR + ";" + WATER, 6, BAR.length() + 1 + WATER.length());
        fault(BAR + ";" + KINDS, 6, BAR.length() + 1 + KINDS.length());
        fault(WATER + ";" + KINDS + "  ", 6, WATER.length() + 3 + KINDS.length());
        String oneKind = BAR + ";" + WATER + ";kind raw hard 0 room 0 bears 9";
        fault(oneKind, 6, oneKind.length());
        fault(oneKind + ";", 1, oneKind.length() + 1);
    }

    private static void whereAndFault() {
        TwoMinds x = new TwoMinds();
        CHECK.due("a faulty book", x, Check.book(x, "bar long 9"), -1, 4);
        Check.feed(x, "x");
        x.cell(0, 0, 0);
        x.layer(0);
        x.size(0);
        CHECK.noneLed(x, 0);
        CHECK.due("where behind calls that no number is told of", x.where(), 9);
        CHECK.due("trouble behind them", x.trouble(), 4);
        x.cold();
        CHECK.due("where behind a call refused otherwise", x.where(), -1);
        CHECK.due("fault then", x.fault(), 4);
        CHECK.due("a book refused by 2", x, x.book(21), -1, 2);
        CHECK.due("fault then", x.fault(), 4);
        CHECK.due("where then", x.where(), -1);
        x.book(0);
        CHECK.due("fault of an empty book", x.fault(), 1);
        CHECK.due("a good book", x, Check.book(x, WHOLE_BOOK), 2, 0);
        CHECK.due("fault of a good book", x.fault(), 0);
        CHECK.due("where of a good book", x.where(), -1);
    }

    private static void fault(String text, int number, int place) {
        TwoMinds x = new TwoMinds();
        String what = "book of '" + text + "'";
        CHECK.due(what, x, Check.book(x, text), -1, 4);
        CHECK.due("fault of " + what, x.fault(), number);
        CHECK.due("where of " + what, x.where(), place);
        CHECK.due("size(0) behind " + what, x.size(0), 0);
    }
}

/** The boundary cases of promises 1 to 5 and of the text of a book (Terms I), sentence by sentence. */
public final class TextEdgeTest {
    private static final String BAR = "bar long 2 wide 3";
    private static final String WATER = "water 10 pulls 20 shield 30 flow 4 swell 5";
    private static final String KIND_A = "kind a hard 0 room 0 bears 9";
    private static final String KIND_B = "kind b hard 90 room 20 bears 10";
    private static final String WHOLE = BAR + ";" + WATER + ";" + KIND_A + ";" + KIND_B;
    private static final String[] SORTS = {"bar", "water", "kind", "turn", "red", "stone", "smith"};

    private static final Check CHECK = new Check("TextEdgeTest");

    public static void main(String[] args) {
        noBook();
        feeds();
        bytes();
        tapeOfWholeRoom();
        booksAnew();
        oneBookBehindAnother();
        booksOfNoBytes();
        faultyBooks();
        faultsAndPlaces();
        blanks();
        words();
        wholes();
        lines();
        leastNumbers();
        greatestNumbers();
        barsAndWaters();
        kindsAndTurns();
        reds();
        stones();
        smiths();
        names();
        fullBook();
        form();
        notAKind();
        toldAgain();
        outOfBounds();
        many();
        lacks();
        firstFromTheLeft();
        CHECK.end();
    }

    private static void fault(String text, int number, int place) {
        TwoMinds x = new TwoMinds();
        String what = "book of '" + text + "'";
        CHECK.due(what, x, Check.book(x, text), -1, 4);
        CHECK.due("fault of " + what, x.fault(), number);
        CHECK.due("where of " + what, x.where(), place);
    }

    private static TwoMinds good(String text, int kinds) {
        TwoMinds x = new TwoMinds();
        String what = "book of '" + text + "'";
        CHECK.due(what, x, Check.book(x, text), kinds, 0);
        CHECK.due("fault of " + what, x.fault(), 0);
        CHECK.due("where of " + what, x.where(), -1);
        return x;
    }

    // ---- promises 1 to 5

    private static void noBook() {
        CHECK.says("`TwoMinds()`: No BOOK.");
        TwoMinds x = new TwoMinds();
        CHECK.due("trouble of a new object", x.trouble(), 0);
        CHECK.due("fault of a new object", x.fault(), 0);
        CHECK.due("where of a new object", x.where(), -1);
        CHECK.due("cold of a new object", x, x.cold(), -1, 1);
        CHECK.due("next of a new object", x, x.next(), -1, 1);
        TwoMinds y = new TwoMinds();
        Check.book(x, WHOLE);
        CHECK.due("cold of another new object", y, y.cold(), -1, 1);
        CHECK.due("tape of another new object", y.size(11), 0);
    }

    private static void feeds() {
        CHECK.says("NONE, and none comes, if there would be more than 700.");
        TwoMinds x = new TwoMinds();
        for (int k = 1; k <= 34; k++) {
            CHECK.due("feed " + k, x.feed(0, 0, 0, 0, 0), 20 * k);
        }
        CHECK.due("size(11)", x.size(11), 680);
        CHECK.due("the feed that fills the tape", x.feed(0, 0, 0, 0, 0), 700);
        CHECK.due("size(11)", x.size(11), 700);
        CHECK.due("the feed behind it", x.feed(0, 0, 0, 0, 0), -1);
        CHECK.due("one more", x.feed(-1, -1, -1, -1, -1), -1);
        CHECK.due("size(11)", x.size(11), 700);
        CHECK.due("trouble behind it", x.trouble(), 0);
        x.book(0);
        CHECK.due("a feed behind a book", x.feed(0, 0, 0, 0, 0), 20);
        CHECK.due("trouble stays behind feed", x.trouble(), 4);
        CHECK.due("where stays behind feed", x.where(), 0);
    }

    private static void bytes() {
        CHECK.says("Twenty bytes come behind THE TAPE, of each number the highest first");
        // Letters but for one byte that begins no token: where() tells at which place it came.
        for (int place = 0; place < 20; place++) {
            for (int odd : new int[] {0, 127, 128, 255}) {
                int[] n = new int[5];
                for (int k = 0; k < 20; k++) {
                    n[k / 4] = n[k / 4] << 8 | (k == place ? odd : ' ');
                }
                TwoMinds x = new TwoMinds();
                x.feed(0x20202020, 0x20202020, 0x20202020, 0x20202020, 0x20202020);
                CHECK.due("feed", x.feed(n[0], n[1], n[2], n[3], n[4]), 40);
                CHECK.due("book", x, x.book(40), -1, 4);
                CHECK.due("place of byte " + odd, x.where(), 20 + place);
            }
        }
    }

    private static void tapeOfWholeRoom() {
        CHECK.says("THE TAPE has 700 bytes");
        String blanks = " ".repeat(700 - WHOLE.length());
        good(blanks + WHOLE, 2);
        good(WHOLE + blanks, 2);
        TwoMinds x = new TwoMinds();
        Check.feed(x, blanks + WHOLE);
        CHECK.due("all bytes but the last WHOLE's two", x, x.book(698), -1, 4);
        CHECK.due("its fault", x.fault(), 1);
        CHECK.due("its place", x.where(), 698);
        fault(" ".repeat(699) + "b", 1, 699);
        fault(" ".repeat(699) + "5", 1, 699);
        fault(" ".repeat(699) + ";", 1, 699);
        fault(" ".repeat(700), 1, 700);
        fault(" ".repeat(697) + "bar", 1, 700);
        fault(" ".repeat(694) + "kind a", 1, 700);
        fault(" ".repeat(694) + "turn a", 2, 699);
        fault(" ".repeat(690) + "bar long 8", 1, 700);
        fault(" ".repeat(690) + "bar long 9", 4, 699);
        fault(BAR + " ".repeat(696 - BAR.length()) + ";bar", 3, 697);
        fault("red a 100 to 200;smith " + " ".repeat(676) + "a", 3, 699);
    }

    private static void booksAnew() {
        CHECK.says("The first n bytes of THE TAPE (it is empty then) are the BOOK from now on");
        TwoMinds x = new TwoMinds();
        Check.feed(x, WHOLE + " ;kind c hard 1 room 1 bears 1 ?????");
        CHECK.due("the first bytes alone", x, x.book(WHOLE.length()), 2, 0);
        CHECK.due("the tape", x.size(11), 0);
        CHECK.says("(the bar HEATED to 0, no CLAY; DIRT and CARBON 0, nothing LEARNED): how many KINDS.");
        for (Scene scene : new Scene[] {Scene.BOOKED, Scene.WORKED, Scene.CRACKED, Scene.FULL}) {
            TwoMinds old = scene.make();
            old.book(0);
            CHECK.due("a book for a house " + scene, old, Check.book(old, WHOLE), 2, 0);
            TwoMinds fresh = new TwoMinds();
            fresh.book(0);
            Check.book(fresh, WHOLE);
            CHECK.yes("wholly as new: " + scene, Look.whole(old).equals(Look.whole(fresh)));
        }
        TwoMinds heated = good(WHOLE, 2);
        for (int k = 0; k < 6; k++) {
            CHECK.due("heat", heated.cell(k / 3, k % 3, 0), 0);
            CHECK.due("kind", heated.cell(k / 3, k % 3, 1), 0);
            CHECK.due("clay", heated.cell(k / 3, k % 3, 2), 0);
            CHECK.due("turned", heated.cell(k / 3, k % 3, 4), -2);
        }
        for (int layer = 0; layer <= 8; layer++) {
            CHECK.due("layer " + layer, heated.layer(layer), 0);
        }
        CHECK.due("learned", heated.size(10), 0);
    }

    private static void oneBookBehindAnother() {
        CHECK.says("are the BOOK from now on");
        String full = fullText();
        TwoMinds x = new TwoMinds();
        for (int k = 0; k < 4; k++) {
            CHECK.due("a full book", x, Check.book(x, full), 5, 0);
            CHECK.due("its turns", x.size(3), 6);
            CHECK.due("its smiths", x.size(6), 5);
            CHECK.due("a book that ends too early", x, Check.book(x, full.substring(0, full.length() - 1)), -1, 4);
            CHECK.due("the full book stays", x.size(5), 6);
            CHECK.due("a small book", x, Check.book(x, WHOLE), 2, 0);
            for (int what = 3; what <= 6; what++) {
                CHECK.due("size(" + what + ") of the small book", x.size(what), 0);
            }
            CHECK.due("a book of no bar", x, Check.book(x, WATER + ";" + KIND_A + ";" + KIND_B), -1, 4);
            CHECK.due("its fault", x.fault(), 6);
            CHECK.due("a book of one kind", x, Check.book(x, BAR + ";" + WATER + ";" + KIND_A), -1, 4);
            CHECK.due("its fault", x.fault(), 6);
            CHECK.due("a turn to a kind of the book ahead", x, Check.book(x, KIND_A + ";turn b below 100"), -1, 4);
            CHECK.due("its fault", x.fault(), 2);
        }
    }

    private static void booksOfNoBytes() {
        CHECK.says("The first n bytes of THE TAPE");
        for (String text : new String[] {" ", WHOLE, "b", "?"}) {
            TwoMinds x = new TwoMinds();
            Check.feed(x, text);
            CHECK.due("book(0) of '" + text + "'", x, x.book(0), -1, 4);
            CHECK.due("its fault", x.fault(), 1);
            CHECK.due("its place", x.where(), 0);
            CHECK.due("the tape", x.size(11), 0);
        }
        TwoMinds y = new TwoMinds();
        Check.feed(y, " " + WHOLE);
        CHECK.due("book(1) of a blank", y, y.book(1), -1, 4);
        CHECK.due("its place", y.where(), 1);
    }

    private static void faultyBooks() {
        CHECK.says("4 (the BOOK stays).");
        for (Scene scene : Scene.values()) {
            for (String text : new String[] {"", "bar", WHOLE + ";" + WHOLE, WHOLE + ";kind", BAR}) {
                TwoMinds x = scene.make();
                x.book(0);
                CHECK.due("a faulty book of a house " + scene, x, Check.book(x, text), -1, 4);
                CHECK.due("the tape is empty then", x.size(11), 0);
                TwoMinds y = scene.make();
                y.book(0);
                CHECK.yes("all stays of a house " + scene + " by '" + text + "'",
                    butFault(Look.whole(x)).equals(butFault(Look.whole(y))));
            }
        }
    }

    /** The first line of a look is the fault, which is the later book's. */
    private static String butFault(String seen) {
        return seen.substring(seen.indexOf('\n'));
    }

    private static void faultsAndPlaces() {
        CHECK.says("The FAULT of the latest book() not refused by 2; 0 without one.");
        TwoMinds x = new TwoMinds();
        Check.book(x, "bar long 9");
        CHECK.due("fault", x.fault(), 4);
        x.book(1);
        CHECK.due("fault behind a book refused by 2", x.fault(), 4);
        Check.book(x, "kind kind");
        CHECK.due("fault of a later book", x.fault(), 1);
        Check.book(x, WHOLE);
        CHECK.due("fault of a good book", x.fault(), 0);
        x.book(-1);
        CHECK.due("fault of a good book, behind a book refused by 2", x.fault(), 0);
        CHECK.says("Its place, if the latest call that may be refused was by 4; NONE else.");
        Check.book(x, "bar long 9");
        CHECK.due("place", x.where(), 9);
        CHECK.due("place, asked again", x.where(), 9);
        x.book(1);
        CHECK.due("place behind a book refused by 2", x.where(), -1);
        Check.book(x, "bar long 9");
        x.fault();
        x.trouble();
        x.size(3);
        x.layer(3);
        x.cell(0, 0, 0);
        x.feed(0, 0, 0, 0, 0);
        CHECK.noneLed(x, 0);
        CHECK.due("place behind calls of which no number is told", x.where(), 9);
        x.cold();
        CHECK.due("place behind a call that isn't refused", x.where(), -1);
        CHECK.due("the fault stays", x.fault(), 4);
    }

    // ---- tokens

    private static void blanks() {
        CHECK.says("blanks, 32, part TOKENS and mean nothing else");
        good("   " + WHOLE.replace(" ", "   ").replace(";", "  ;  ") + "   ", 2);
        good("bar long2wide3;water10pulls20shield30flow4swell5;kind a hard0room0bears9;kind b hard90room20bears10", 2);
        fault("b ar long 2", 1, 0);
        fault("barlong 2", 1, 0);
        fault("bar long 1 2 wide", 1, 11);
        fault(WHOLE.replace("hard 90", "hard 9 0"), 1, WHOLE.indexOf("hard 90") + 7);
        for (int other : new int[] {0, 9, 10, 13, 31, 33, 95, 160}) {
            fault("bar" + (char) other + "long 2 wide 3", 1, 3);
            fault(WHOLE + (char) other, 1, WHOLE.length());
            fault((char) other + WHOLE, 1, 0);
        }
    }

    private static void words() {
        CHECK.says("TOKENS: WORDS of 1 to 8 small letters that stand together");
        good(WHOLE.replace("kind b", "kind abcdefgh"), 2);
        fault("kind a", 1, 6);
        fault("kind abcdefgh", 1, 13);
        fault("kind abcdefghi", 1, 5);
        fault("kind abcdefghi hard 0", 1, 5);
        fault("abcdefghi", 1, 0);
        fault("kind abcdefgh i", 1, 14);
        fault("kind az hard", 1, 12);
        fault("kind za hard", 1, 12);
        for (int other : new int[] {'a' - 1, 'z' + 1, 'A', 'Z', 'a' + 128}) {
            fault("kind " + (char) other, 1, 5);
            fault("kind a" + (char) other, 1, 6);
        }
    }

    private static void wholes() {
        CHECK.says("WHOLES of 1 to 3 digits that do, single ones of ; ,): LINE {; LINE}.");
        good(WHOLE.replace("bears 9;", "bears 999;").replace("long 2", "long 002").replace("hard 0", "hard 000"), 2);
        fault("bar long 002 wide 3", 6, 19);
        fault("bar long 0002 wide 3", 1, 9);
        fault("kind a hard 0 room 0 bears 1000", 1, 27);
        fault("kind a hard 0 room 0 bears 0001", 1, 27);
        fault("kind a hard 0 room 0 bears 100 0", 1, 31);
        for (int other : new int[] {'0' - 1, '9' + 1, '0' + 128}) {
            fault("bar long " + (char) other, 1, 9);
            fault("bar long 2" + (char) other, 1, 10);
        }
        for (int other : new int[] {';' - 1, ';' + 1, ',' - 1, ',' + 1, '.'}) {
            fault("smith a 1" + (char) other + "2", 1, 9);
            fault(BAR + (char) other + WATER, 1, BAR.length());
        }
    }

    private static void lines() {
        CHECK.says("LINE {; LINE}");
        fault("", 1, 0);
        fault("  ", 1, 2);
        fault(";" + WHOLE, 1, 0);
        fault(BAR + ";;" + WATER, 1, BAR.length() + 1);
        fault(WHOLE + ";", 1, WHOLE.length() + 1);
        fault(WHOLE + "; ", 1, WHOLE.length() + 2);
        fault(BAR + " " + WATER, 1, BAR.length() + 1);
        fault(BAR + "," + WATER, 1, BAR.length());
        good(KIND_A + ";" + KIND_B + ";" + WATER + ";" + BAR, 2);
        good(WATER + ";" + KIND_A + ";" + BAR + ";red r 100 to 999;" + KIND_B, 2);
    }

    // ---- numbers at the ends of their ranges, and what comes of them

    private static void leastNumbers() {
        CHECK.says("bar long WHOLE wide WHOLE (1 .. 8, 2 .. 5), or water WHOLE pulls WHOLE shield WHOLE flow WHOLE"
            + " swell WHOLE (0 .. 99, 1 .. 50, 0 .. 60, 0 .. 12, 0 .. 50)");
        TwoMinds x = good("bar long 1 wide 2;water 0 pulls 1 shield 0 flow 0 swell 0;kind a hard 0 room 0 bears 1"
            + ";kind b hard 0 room 0 bears 1;turn b below 100 drop 0;red r 100 to 100;stone s days 1 shows 0"
            + ";smith t 1", 2);
        CHECK.due("long", x.size(0), 1);
        CHECK.due("wide", x.size(1), 2);
        CHECK.due("cell(0, 1, 0)", x.cell(0, 1, 0), 0);
        CHECK.due("cell(1, 0, 0)", x.cell(1, 0, 0), -1);
        CHECK.due("cell(0, 2, 0)", x.cell(0, 2, 0), -1);
        CHECK.due("whole pull", x.size(12), 4);
        x.heat(100);
        x.clay(0, 0, 3);
        x.go(1);
        CHECK.due("heat of the edge, of which no clay takes anything", x.cell(0, 0, 0), 99);
        CHECK.due("heat behind it", x.cell(0, 1, 0), 100);
        CHECK.due("kind of the edge", x.cell(0, 0, 1), 1);
        CHECK.due("size of the edge", x.cell(0, 0, 3), 0);
        CHECK.due("chip", x, x.chip(0, 0), 1, 0);
        CHECK.due("chip of hard 1", x, x.chip(0, 1), 0, 0);
        CHECK.due("colour(100, 0)", x, x.colour(100, 0), 0, 0);
        CHECK.due("colour(99, 0)", x, x.colour(99, 0), -2, 0);
        CHECK.due("colour(101, 0)", x, x.colour(101, 0), -2, 0);
        CHECK.due("polish(1)", x, x.polish(1), 1, 0);
        CHECK.due("odds(0, 255)", x, x.odds(0, 255), 1, 0);
    }

    private static void greatestNumbers() {
        CHECK.says("kind NAME hard WHOLE room WHOLE bears WHOLE (0 .. 99, 0 .. 50, 1 .. 999), or turn NAME below"
            + " WHOLE drop WHOLE (a KIND, not the first one; 100 .. 900, 0 .. 400)");
        TwoMinds x = good("bar long 8 wide 5;water 99 pulls 50 shield 60 flow 12 swell 50"
            + ";kind a hard 98 room 0 bears 999;kind b hard 99 room 50 bears 999;turn b below 900 drop 400"
            + ";red r 999 to 999;stone s days 20 shows 7;smith t 9,9,9,9,9,9,9,9", 2);
        CHECK.due("long", x.size(0), 8);
        CHECK.due("wide", x.size(1), 5);
        CHECK.due("cell(7, 4, 0)", x.cell(7, 4, 0), 0);
        CHECK.due("cell(8, 0, 0)", x.cell(8, 0, 0), -1);
        CHECK.due("cell(0, 5, 0)", x.cell(0, 5, 0), -1);
        CHECK.due("whole pull", x.size(12), 200);
        x.heat(999);
        x.clay(7, 4, 1);
        x.clay(7, 3, 2);
        x.go(1);
        int[] heats = {549, 774, 849, 887, 909};
        for (int j = 0; j < 5; j++) {
            CHECK.due("heat of cell " + j, x.cell(0, j, 0), heats[j]);
            CHECK.due("kind of cell " + j, x.cell(6, j, 1), j == 0 ? 1 : 0);
            CHECK.due("size of cell " + j, x.cell(3, j, 3), heats[j] / 2 + (j == 0 ? 50 : 0));
        }
        CHECK.due("heat below clay 1", x.cell(7, 4, 0), 963);
        CHECK.due("heat below clay 2", x.cell(7, 3, 0), 999);
        CHECK.due("cloud of 99", x, x.cloud(0, 99), 1, 0);
        CHECK.due("cloud of 98", x, x.cloud(0, 98), 5, 0);
        CHECK.due("chip of 99", x, x.chip(0, 99), 8, 0);
        CHECK.due("colour(999, 0)", x, x.colour(999, 0), 0, 0);
        CHECK.due("colour(998, 0)", x, x.colour(998, 0), -2, 0);
        CHECK.due("polish(128)", x, x.polish(128), 20, 0);
        CHECK.due("odds(0, 255)", x, x.odds(0, 255), 43046721, 0);
        x.go(1);
        // Of 549: flow 12 gives 27 from 774, and 50 by 100 of 450 goes to the water.
        CHECK.due("heat of the edge in tenth 2", x.cell(0, 0, 0), 549 + 27 - 225);
    }

    /** Both ends of a range go on to a fault at the end of the text; what lies beside them is a fault at it. */
    private static void range(String ahead, int least, int most, String behind) {
        for (int whole : new int[] {least, most}) {
            TwoMinds x = new TwoMinds();
            String text = ahead + whole + behind;
            Check.book(x, text);
            CHECK.due("the place of the fault of '" + text + "'", x.where(), text.length());
            CHECK.yes("its fault isn't 4", x.fault() == 1 || x.fault() == 6);
        }
        if (least > 0) {
            fault(ahead + (least - 1) + behind, 4, ahead.length());
            fault(ahead + "0" + behind, 4, ahead.length());
        }
        if (most < 999) {
            fault(ahead + (most + 1) + behind, 4, ahead.length());
            fault(ahead + "999" + behind, 4, ahead.length());
        } else {
            fault(ahead + "1000" + behind, 1, ahead.length());
        }
    }

    private static void barsAndWaters() {
        CHECK.says("bar long WHOLE wide WHOLE (1 .. 8, 2 .. 5)");
        range("bar long ", 1, 8, "");
        range("bar long 1 wide ", 2, 5, "");
        CHECK.says("(0 .. 99, 1 .. 50, 0 .. 60, 0 .. 12, 0 .. 50)");
        range("water ", 0, 99, "");
        range("water 99 pulls ", 1, 50, "");
        range("water 99 pulls 50 shield ", 0, 60, "");
        range("water 99 pulls 50 shield 60 flow ", 0, 12, "");
        range("water 99 pulls 50 shield 60 flow 12 swell ", 0, 50, "");
    }

    private static void kindsAndTurns() {
        CHECK.says("(0 .. 99, 0 .. 50, 1 .. 999)");
        range("kind a hard ", 0, 99, "");
        range("kind a hard 99 room ", 0, 50, "");
        range("kind a hard 99 room 50 bears ", 1, 999, "");
        CHECK.says("(a KIND, not the first one; 100 .. 900, 0 .. 400)");
        String kinds = KIND_A + ";" + KIND_B + ";";
        range(kinds + "turn b below ", 100, 900, "");
        range(kinds + "turn b below 900 drop ", 0, 400, "");
        fault(kinds + "turn a below 100 drop 0", 2, kinds.length() + 5);
        fault(kinds + "turn c below 100 drop 0", 2, kinds.length() + 5);
        fault(kinds + "turn b", 1, kinds.length() + 6);
    }

    private static void reds() {
        CHECK.says("red NAME WHOLE to WHOLE (100 .. 999, the latter not below the former)");
        range("red r ", 100, 999, "");
        range("red r 100 to ", 100, 999, "");
        range("red r 500 to ", 500, 999, "");
        range("red r 999 to ", 999, 999, "");
        fault("red r 500 to 100", 4, 13);
        fault("red r 500 to 99", 4, 13);
    }

    private static void stones() {
        CHECK.says("stone NAME days WHOLE shows WHOLE {, WHOLE} (1 .. 20; SIGNS 0 .. 7, unlike)");
        range("stone s days ", 1, 20, "");
        range("stone s days 1 shows ", 0, 7, "");
        range("stone s days 1 shows 3,", 0, 7, "");
        fault("stone s days 1 shows", 1, 20);
        fault("stone s days 1 shows 0,", 1, 23);
        fault("stone s days 1 shows ,", 1, 21);
        fault("stone s days 1 shows 0,0", 3, 23);
        fault("stone s days 1 shows 7,0,7", 3, 25);
        fault("stone s days 1 shows 7,0,007", 3, 25);
        String all = "stone s days 1 shows 0,1,2,3,4,5,6,7";
        fault(all, 6, all.length());
        fault(all + ",", 1, all.length() + 1);
        for (int sign = 0; sign <= 7; sign++) {
            fault(all + "," + sign, 3, all.length() + 1);
        }
        fault(all + ",8", 4, all.length() + 1);
        TwoMinds x = good(WHOLE + ";" + all, 2);
        CHECK.due("a stone that shows all", x, x.stones(255), 1, 0);
        TwoMinds y = good(WHOLE + ";stone s days 1 shows 0;stone t days 2 shows 0", 2);
        CHECK.due("like signs of unlike stones", y, y.stones(1), 1, 0);
    }

    private static void smiths() {
        CHECK.says("smith NAME WHOLE {, WHOLE} (1 .. 9 each, up to 8: of SIGNS 0, 1, ..)");
        range("smith s ", 1, 9, "");
        range("smith s 1,", 1, 9, "");
        range("smith s 9,9,9,9,9,9,9,", 1, 9, "");
        fault("smith s", 1, 7);
        fault("smith s ;", 1, 8);
        fault("smith s 1,", 1, 10);
        fault("smith s 1 2", 1, 10);
        TwoMinds x = good(WHOLE + ";smith s 2,3,4,5,6,7,8,9;smith t 7", 2);
        for (int sign = 0; sign < 8; sign++) {
            CHECK.due("odds of sign " + sign, x, x.odds(0, 1 << sign), 2 + sign, 0);
            CHECK.due("odds of sign " + sign + " by another", x, x.odds(1, 1 << sign), sign == 0 ? 7 : 1, 0);
        }
    }

    // ---- names and how many there may be

    private static void names() {
        CHECK.says("NAMES are WORDS but bar, water, kind, turn, red, stone, smith; each told once, ahead of its use.");
        for (String word : SORTS) {
            for (String sort : new String[] {"kind ", "turn ", "red ", "stone ", "smith "}) {
                fault(sort + word, 1, sort.length());
            }
            good(WHOLE.replace("kind b", "kind " + word + "s"), 2);
        }
        String[] others = {"long", "wide", "pulls", "shield", "flow", "swell", "hard", "room", "bears", "below", "drop",
            "to", "days", "shows"};
        for (String word : others) {
            good(WHOLE.replace("kind b", "kind " + word) + ";turn " + word + " below 100 drop 0", 2);
        }
        good(WHOLE + ";red to 100 to 200;stone days days 1 shows 1;smith smiths 1", 2);
        fault("red a100 to 200;smith a 1", 3, 22);
        fault("red a 100 to 200;smith a1", 3, 23);
        fault("red a 100 to 200;smith b1;stone a days", 3, 32);
        fault("red r100 to 200;smith r", 3, 22);
        fault(KIND_A + ";turn b below 100 drop 0;" + KIND_B, 2, KIND_A.length() + 6);
        fault("turn b below 100 drop 0;" + KIND_A + ";" + KIND_B, 2, 5);
        good(KIND_A + ";" + KIND_B + ";turn b below 100 drop 0;turn b below 100 drop 0;" + BAR + ";" + WATER, 2);
    }

    private static String list(String line, int count) {
        StringBuilder text = new StringBuilder();
        for (int k = 0; k < count; k++) {
            text.append(';').append(line.replace('#', (char) ('a' + k)));
        }
        return text.toString();
    }

    private static String fullText() {
        return BAR + ";" + WATER + list("kind k# hard 9 room 9 bears 9", 5) + list("turn ke below 100 drop 0", 6)
            + list("red r# 100 to 200", 6) + list("stone s# days 1 shows 0", 6) + list("smith t# 1,2,3,4", 5);
    }

    private static void fullBook() {
        CHECK.says("2 to 5 KINDS, up to 6 turns, 6 reds, 6 stones, 5 smiths.");
        String full = fullText();
        CHECK.yes("the full book has room on the tape: " + full.length(), full.length() <= 700);
        TwoMinds x = good(full, 5);
        int[] sizes = {2, 3, 5, 6, 6, 6, 5};
        for (int what = 0; what < sizes.length; what++) {
            CHECK.due("size(" + what + ")", x.size(what), sizes[what]);
        }
        CHECK.due("odds of the last smith", x, x.odds(4, 15), 24, 0);
        CHECK.due("eye of the last red", x, x.eye(5, 0, 0, 0, 0), 0, 0);
        x.heat(100);
        x.go(1);
        CHECK.due("the last kind", x.cell(0, 0, 1), 4);
        TwoMinds least = good(WHOLE, 2);
        for (int what = 3; what <= 6; what++) {
            CHECK.due("size(" + what + ") of the least book", least.size(what), 0);
        }
    }

    // ---- faults

    private static void form() {
        CHECK.says("1 FORM: the first byte that begins no TOKEN, or TOKEN with which no BOOK goes on (the end: its"
            + " place).");
        String[] whole = {BAR, WATER, KIND_A, "red r 100 to 200", "stone s days 1 shows 0", "smith s 1"};
        for (String line : whole) {
            String[] tokens = line.split(" ");
            StringBuilder ahead = new StringBuilder();
            for (int k = 0; k < tokens.length; k++) {
                int place = ahead.length();
                fault(ahead.toString(), 1, place);
                fault(ahead + ";", 1, place);
                fault(ahead + ",", 1, place);
                fault(ahead + "?", 1, place);
                boolean number = Character.isDigit(tokens[k].charAt(0));
                boolean name = tokens[k].length() == 1 && !number;
                fault(ahead + (number ? "x" : "5"), 1, place);
                if (!number && !name) {
                    fault(ahead + tokens[k] + "x", 1, place);
                    fault(ahead + tokens[k].substring(1), 1, place);
                    for (int letter = 0; letter < tokens[k].length(); letter++) {
                        StringBuilder other = new StringBuilder(tokens[k]);
                        other.setCharAt(letter, 'q');
                        fault(ahead.toString() + other, 1, place);
                    }
                }
                ahead.append(tokens[k]).append(' ');
            }
            fault(ahead + "x", 1, ahead.length());
            fault(ahead + "5", 1, ahead.length());
            fault(ahead + ";", 1, ahead.length() + 1);
        }
    }

    private static void notAKind() {
        CHECK.says("2 a NAME that isn't a KIND's, or is the first one's; at it.");
        String ahead = KIND_A + ";" + KIND_B + ";red r 100 to 200;stone s days 1 shows 0;smith t 1;";
        for (String name : new String[] {"a", "r", "s", "t", "u", "ab", "ba", "bb"}) {
            fault(ahead + "turn " + name, 2, ahead.length() + 5);
            fault(ahead + "turn   " + name + " ?", 2, ahead.length() + 7);
        }
        fault(ahead + "turn b", 1, ahead.length() + 6);
        fault(ahead + "turn 5", 1, ahead.length() + 5);
    }

    private static void toldAgain() {
        CHECK.says("3 a NAME told again, a SIGN told twice; at it; a second bar or water; at that WORD.");
        String[] lines = {"kind n hard 0 room 0 bears 1", "red n 100 to 200", "stone n days 1 shows 0", "smith n 1"};
        for (String line : lines) {
            for (String sort : new String[] {"kind", "red", "stone", "smith"}) {
                fault(line + ";" + sort + " n", 3, line.length() + sort.length() + 2);
                fault(line + ";" + sort + " nn", 1, line.length() + sort.length() + 4);
            }
        }
        fault(BAR + ";bar", 3, BAR.length() + 1);
        fault(BAR + " ;  bar ?", 3, BAR.length() + 4);
        fault(WATER + ";water", 3, WATER.length() + 1);
        fault(WATER + ";" + BAR + ";water 100", 3, WATER.length() + BAR.length() + 2);
        fault("stone s days 1 shows 1,2,1", 3, 25);
        fault("stone s days 1 shows 1,2,1 ?", 3, 25);
    }

    private static void outOfBounds() {
        CHECK.says("4 a WHOLE out of bounds; at it.");
        fault("bar long 9 ?", 4, 9);
        fault("bar long  009", 4, 10);
        fault("bar long 0 wide 9", 4, 9);
        fault("bar long 1 wide 1;?", 4, 16);
    }

    private static void tooMany(String line, int most, String ahead) {
        String text = ahead + list(line, most);
        String sort = line.substring(0, line.indexOf(' '));
        fault(text, 6, text.length());
        fault(text + ";", 1, text.length() + 1);
        fault(text + ";" + sort, 5, text.length() + 1);
        fault(text + ";" + sort + " ?", 5, text.length() + 1);
        fault(text + ";" + line.replace('#', 'a'), 5, text.length() + 1);
        fault(text + ";" + line.replace('#', 'z'), 5, text.length() + 1);
    }

    private static void many() {
        CHECK.says("5 MANY: a LINE more of its sort than there is room for, at its first WORD; a ninth WHOLE of a"
            + " smith, at it.");
        tooMany("kind k# hard 0 room 0 bears 1", 5, BAR);
        tooMany("turn b below 100 drop 0", 6, KIND_A + ";" + KIND_B);
        tooMany("red r# 100 to 200", 6, BAR);
        tooMany("stone s# days 1 shows 0", 6, BAR);
        tooMany("smith t# 1", 5, BAR);
        String eight = "smith s 1,2,3,4,5,6,7,8";
        fault(eight, 6, eight.length());
        fault(eight + ",", 1, eight.length() + 1);
        fault(eight + ",x", 1, eight.length() + 1);
        fault(eight + ",1", 5, eight.length() + 1);
        fault(eight + ", 9 ?", 5, eight.length() + 2);
        fault(eight + ",0", 4, eight.length() + 1);
        fault(eight + ",10", 4, eight.length() + 1);
    }

    private static void lacks() {
        CHECK.says("6 LACKS, at the end: no bar, no water, fewer than two KINDS.");
        String[] lines = {BAR, WATER, KIND_A, KIND_B};
        for (int left = 0; left < lines.length; left++) {
            StringBuilder text = new StringBuilder("red r 100 to 200");
            for (int k = 0; k < lines.length; k++) {
                text.append(k == left ? "" : ";" + lines[k]);
            }
            fault(text.toString(), 6, text.length());
            fault(text + "   ", 6, text.length() + 3);
            good(text + ";" + lines[left], 2);
        }
        fault(BAR, 6, BAR.length());
    }

    private static void firstFromTheLeft() {
        CHECK.says("FAULTS, the first that is met from the left, of one place the least number");
        fault("bar long 9 wide 9", 4, 9);
        fault("bar long 9 wide ?", 4, 9);
        fault("bar long ? wide 9", 1, 9);
        fault(BAR + ";bar long 9", 3, BAR.length() + 1);
        fault(KIND_A + ";kind a hard 100", 3, KIND_A.length() + 6);
        fault(KIND_A + ";turn a below 99", 2, KIND_A.length() + 6);
        fault(KIND_A + ";turn b below 99;bar", 2, KIND_A.length() + 6);
        fault("red r 99 to 98", 4, 6);
        fault("stone s days 0 shows 9", 4, 13);
        fault("smith s 0,x", 4, 8);
        fault("?" + WHOLE, 1, 0);
    }
}

import java.util.NoSuchElementException;

/**
 * Every refused call of promises 3 and 6 to 35: what it answers, what trouble() and where() answer behind
 * it, and that nothing else has changed. Ranges are tried just inside, just outside and far outside.
 */
public final class RefusedTest {
    private static final long NO = 0;
    private static final long NONE = -1;
    private static final long LEAST_INT = -(1L << 31);
    private static final long LEAST_LONG = 1L << 63;
    private static final Scene[] BOOKLESS = {Scene.NEW, Scene.FED};
    /** A text that cracks its bar in tenth 346 if heated to 999. */
    private static final String LATE =
        Scene.BRITTLE.replace("pulls 50", "pulls 1").replace("below 500", "below 270");

    private static final Check CHECK = new Check("RefusedTest");

    private interface Call {
        long on(TwoMinds x);
    }

    private interface NumberCall {
        long on(TwoMinds x, int v);
    }

    public static void main(String[] args) {
        books();
        heats();
        clays();
        goes();
        goesOfLateCrack();
        agains();
        looksAtBar();
        clouds();
        aims();
        scatters();
        whys();
        lays();
        folds();
        colours();
        eyes();
        signs();
        learns();
        quietOnes();
        CHECK.end();
    }

    private static long yes(boolean answer) {
        return answer ? 1 : 0;
    }

    /** A house of a scene behind a call that was allowed, or refused by 2, or by 4. */
    private static TwoMinds made(Scene scene, int ahead) {
        TwoMinds x = scene.make();
        if (ahead == 1) {
            x.book(-1);
        } else if (ahead == 2) {
            x.book(0);
        }
        return x;
    }

    private static void no(Scene scene, String name, Call call, long answer, int trouble) {
        for (int ahead = 0; ahead < 3; ahead++) {
            String what = name + " of a house " + scene + " (" + ahead + ")";
            TwoMinds x = made(scene, ahead);
            CHECK.due(what, x, call.on(x), answer, trouble);
            CHECK.due("where() behind " + what, x.where(), -1);
            unchanged(what, x, made(scene, ahead));
        }
    }

    /** A call of which no number is told: trouble() and where() stay, too. */
    private static void quietNo(Scene scene, String name, Call call, long answer) {
        for (int ahead = 0; ahead < 3; ahead++) {
            String what = name + " of a house " + scene + " (" + ahead + ")";
            TwoMinds x = made(scene, ahead);
            TwoMinds y = made(scene, ahead);
            CHECK.due(what, x, call.on(x), answer, y.trouble());
            CHECK.due("where() behind " + what, x.where(), y.where());
            unchanged(what, x, y);
        }
    }

    private static void unchanged(String what, TwoMinds x, TwoMinds y) {
        CHECK.yes("nothing to be seen has changed by " + what, Look.quiet(x).equals(Look.quiet(y)));
        CHECK.yes("nothing has changed by " + what, Look.whole(x).equals(Look.whole(y)));
    }

    private static void noBook(String name, Call call, long answer) {
        for (Scene scene : BOOKLESS) {
            no(scene, name, call, answer, 1);
        }
    }

    private static void outside(Scene scene, String name, int least, int most, NumberCall call, long answer,
            int trouble) {
        for (int v : new int[] {least - 1, most + 1, Integer.MIN_VALUE, Integer.MAX_VALUE}) {
            no(scene, name + " with " + v, x -> call.on(x, v), answer, trouble);
        }
    }

    private static void range(Scene scene, String name, int least, int most, NumberCall call, long answer,
            int trouble) {
        for (int v : new int[] {least, most}) {
            TwoMinds x = scene.make();
            x.book(-1);
            call.on(x, v);
            CHECK.due("trouble() behind " + name + " with " + v + " of a house " + scene, x.trouble(), 0);
        }
        outside(scene, name, least, most, call, answer, trouble);
    }

    private static void books() {
        CHECK.says("NONE: 2 (THE TAPE stays)");
        outside(Scene.NEW, "book", 0, 0, TwoMinds::book, NONE, 2);
        outside(Scene.BOOKED, "book", 0, 0, TwoMinds::book, NONE, 2);
        outside(Scene.WORKED, "book", 0, 700, TwoMinds::book, NONE, 2);
        for (Scene scene : new Scene[] {Scene.FED, Scene.WORKED, Scene.FULL}) {
            TwoMinds x = scene.make();
            int taped = x.size(11);
            CHECK.due("one byte too many", x, x.book(taped + 1), NONE, 2);
            CHECK.due("THE TAPE stays", x.size(11), taped);
            CHECK.due("just all bytes of a house " + scene, x, x.book(taped), 3, 0);
            CHECK.due("it is empty then", x.size(11), 0);
            CHECK.due("one byte of an empty tape", x, x.book(1), NONE, 2);
        }
    }

    private static void heats() {
        CHECK.says("The bar is HEATED: true; false: 1 (no BOOK); 2.");
        noBook("heat(0)", x -> yes(x.heat(0)), NO);
        noBook("heat(1000)", x -> yes(x.heat(1000)), NO);
        range(Scene.WORKED, "heat", 0, 999, (x, v) -> yes(x.heat(v)), NO, 2);
        outside(Scene.BOOKED, "heat", 0, 999, (x, v) -> yes(x.heat(v)), NO, 2);
        outside(Scene.CRACKED, "heat", 0, 999, (x, v) -> yes(x.heat(v)), NO, 2);
    }

    private static void clays() {
        CHECK.says("A CELL's CLAY becomes t: true; false: 1 (CELL); 2; 5 (TENTH isn't 0).");
        noBook("clay(0, 0, 0)", x -> yes(x.clay(0, 0, 0)), NO);
        noBook("clay(0, 0, 4)", x -> yes(x.clay(0, 0, 4)), NO);
        range(Scene.BOOKED, "clay of i", 0, 1, (x, v) -> yes(x.clay(v, 0, 1)), NO, 1);
        range(Scene.BOOKED, "clay of j", 0, 1, (x, v) -> yes(x.clay(0, v, 1)), NO, 1);
        range(Scene.BOOKED, "clay of t", 0, 3, (x, v) -> yes(x.clay(0, 0, v)), NO, 2);
        outside(Scene.BOOKED, "clay of i and t", 0, 1, (x, v) -> yes(x.clay(v, 0, 4)), NO, 1);
        outside(Scene.WORKED, "clay of i, in tenth 3", 0, 1, (x, v) -> yes(x.clay(v, 0, 4)), NO, 1);
        outside(Scene.WORKED, "clay of j, in tenth 3", 0, 1, (x, v) -> yes(x.clay(0, v, 1)), NO, 1);
        outside(Scene.WORKED, "clay of t, in tenth 3", 0, 3, (x, v) -> yes(x.clay(0, 0, v)), NO, 2);
        for (Scene scene : new Scene[] {Scene.WORKED, Scene.CRACKED, Scene.FULL}) {
            for (int t = 0; t <= 3; t++) {
                int clay = t;
                no(scene, "clay(1, 1, " + t + ")", x -> yes(x.clay(1, 1, clay)), NO, 5);
            }
        }
    }

    private static void goes() {
        CHECK.says("NONE: 1 (no BOOK); 2; 3 (TENTH would be above 400); 5 (it is CRACKED).");
        noBook("go(1)", x -> x.go(1), NONE);
        noBook("go(0)", x -> x.go(0), NONE);
        range(Scene.BOOKED, "go", 1, 60, TwoMinds::go, NONE, 2);
        range(Scene.WORKED, "go", 1, 60, TwoMinds::go, NONE, 2);
        outside(Scene.CRACKED, "go", 1, 60, TwoMinds::go, NONE, 2);
        outside(Scene.FULL, "go", 1, 60, TwoMinds::go, NONE, 2);
        no(Scene.FULL, "go(1)", x -> x.go(1), NONE, 3);
        no(Scene.FULL, "go(60)", x -> x.go(60), NONE, 3);
        no(Scene.CRACKED, "go(1)", x -> x.go(1), NONE, 5);
        no(Scene.CRACKED, "go(60)", x -> x.go(60), NONE, 5);
    }

    private static void goesOfLateCrack() {
        TwoMinds x = Check.house(LATE);
        x.heat(999);
        for (int k = 0; k < 5; k++) {
            CHECK.due("go(60)", x, x.go(60), 60, 0);
        }
        CHECK.due("go(60) till it cracks", x, x.go(60), 46, 0);
        CHECK.due("the tenth of a late crack", x, x.crack(0), 346, 0);
        CHECK.due("54 more of a cracked bar", x, x.go(54), NONE, 5);
        CHECK.due("55 more, without room", x, x.go(55), NONE, 3);
        CHECK.due("60 more, without room", x, x.go(60), NONE, 3);
        CHECK.due("61 more", x, x.go(61), NONE, 2);
        CHECK.due("the tenth still", x.size(7), 346);
    }

    private static void agains() {
        CHECK.says("The bar as it was behind a TENTH (0 .. now): true; false: 1 (no BOOK); 2.");
        noBook("again(0)", x -> yes(x.again(0)), NO);
        noBook("again(-1)", x -> yes(x.again(-1)), NO);
        range(Scene.BOOKED, "again", 0, 0, (x, v) -> yes(x.again(v)), NO, 2);
        range(Scene.WORKED, "again", 0, 3, (x, v) -> yes(x.again(v)), NO, 2);
        range(Scene.CRACKED, "again", 0, 3, (x, v) -> yes(x.again(v)), NO, 2);
        range(Scene.FULL, "again", 0, 400, (x, v) -> yes(x.again(v)), NO, 2);
    }

    private static void looksAtBar() {
        CHECK.says("PULL of a CELL. -2^63: 1.");
        noBook("pull(0, 0)", x -> x.pull(0, 0), LEAST_LONG);
        range(Scene.WORKED, "pull of i", 0, 1, (x, v) -> x.pull(v, 1), LEAST_LONG, 1);
        range(Scene.WORKED, "pull of j", 0, 1, (x, v) -> x.pull(1, v), LEAST_LONG, 1);
        range(Scene.CRACKED, "pull of j", 0, 2, (x, v) -> x.pull(1, v), LEAST_LONG, 1);
        CHECK.says("CURVE of a CUT. -2^31: 1.");
        noBook("curve(0)", x -> x.curve(0), LEAST_INT);
        range(Scene.WORKED, "curve", 0, 1, TwoMinds::curve, LEAST_INT, 1);
        CHECK.says("-2^31: 1 (no BOOK, what).");
        noBook("bend(0)", x -> x.bend(0), LEAST_INT);
        noBook("bend(3)", x -> x.bend(3), LEAST_INT);
        range(Scene.WORKED, "bend", 0, 2, TwoMinds::bend, LEAST_INT, 1);
        CHECK.says("-2 if it didn't. NONE: 1 (no BOOK, what).");
        noBook("crack(0)", x -> x.crack(0), NONE);
        noBook("crack(3)", x -> x.crack(3), NONE);
        range(Scene.WORKED, "crack", 0, 2, TwoMinds::crack, NONE, 1);
        range(Scene.CRACKED, "crack", 0, 2, TwoMinds::crack, NONE, 1);
        CHECK.says("Whether it is COLD: 1, 0. NONE: 1 (no BOOK).");
        noBook("cold()", TwoMinds::cold, NONE);
    }

    private static void clouds() {
        CHECK.says("CLOUD of a CUT, HARD by so much. NONE: 1; 2 (0 .. 99).");
        noBook("cloud(0, 0)", x -> x.cloud(0, 0), NONE);
        noBook("cloud(0, 100)", x -> x.cloud(0, 100), NONE);
        range(Scene.WORKED, "cloud of i", 0, 1, (x, v) -> x.cloud(v, 50), NONE, 1);
        range(Scene.WORKED, "cloud of hard", 0, 99, (x, v) -> x.cloud(1, v), NONE, 2);
        outside(Scene.WORKED, "cloud of i and hard", 0, 1, (x, v) -> x.cloud(v, 100), NONE, 1);
        CHECK.says("How many CELLS a CHIP from a CUT takes. NONE: 1; 2.");
        noBook("chip(0, 0)", x -> x.chip(0, 0), NONE);
        noBook("chip(0, -1)", x -> x.chip(0, -1), NONE);
        range(Scene.WORKED, "chip of i", 0, 1, (x, v) -> x.chip(v, 50), NONE, 1);
        range(Scene.WORKED, "chip of hard", 0, 99, (x, v) -> x.chip(1, v), NONE, 2);
        outside(Scene.WORKED, "chip of i and hard", 0, 1, (x, v) -> x.chip(v, -1), NONE, 1);
    }

    private static void aims() {
        CHECK.says("AIMED for a HEAT, a width (0 .. wide), HARD by so much");
        CHECK.says("CLAY of j times 10 to the j, together. NONE: 1 (no BOOK); 2; 6.");
        noBook("aim(0, 0, 0)", x -> x.aim(0, 0, 0), NONE);
        noBook("aim(-1, -1, -1)", x -> x.aim(-1, -1, -1), NONE);
        range(Scene.WORKED, "aim of heat", 0, 999, (x, v) -> x.aim(v, 2, 0), NONE, 2);
        range(Scene.WORKED, "aim of width", 0, 2, (x, v) -> x.aim(0, v, v == 0 ? 99 : 0), NONE, 2);
        range(Scene.WORKED, "aim of hard", 0, 99, (x, v) -> x.aim(0, v == 0 ? 2 : 0, v), NONE, 2);
        outside(Scene.CRACKED, "aim of width", 0, 3, (x, v) -> x.aim(900, v, 50), NONE, 2);
        no(Scene.CRACKED, "aim(900, 2, 50)", x -> x.aim(900, 2, 50), NONE, 6);
        no(Scene.WORKED, "aim(0, 2, 99)", x -> x.aim(0, 2, 99), NONE, 6);
        no(Scene.WORKED, "aim(0, 0, 0)", x -> x.aim(0, 0, 0), NONE, 6);
    }

    private static void scatters() {
        CHECK.says("SCATTER about a HEAT (0 .. 999) by HEAT and water so much (0 .. 99 each)");
        CHECK.says("how many of nine CRACK. NONE: 1 (no BOOK); 2.");
        noBook("scatter(0, 0, 0)", x -> x.scatter(0, 0, 0), NONE);
        noBook("scatter(0, 0, 100)", x -> x.scatter(0, 0, 100), NONE);
        range(Scene.WORKED, "scatter of heat", 0, 999, (x, v) -> x.scatter(v, 9, 9), NONE, 2);
        range(Scene.WORKED, "scatter by heat", 0, 99, (x, v) -> x.scatter(900, v, 9), NONE, 2);
        range(Scene.WORKED, "scatter by water", 0, 99, (x, v) -> x.scatter(900, 9, v), NONE, 2);
        CHECK.says("LOWERS likewise; -2 if nothing does. NONE: likewise.");
        noBook("lowers(0, 0, 0)", x -> x.lowers(0, 0, 0), NONE);
        noBook("lowers(0, 100, 0)", x -> x.lowers(0, 100, 0), NONE);
        range(Scene.WORKED, "lowers of heat", 0, 999, (x, v) -> x.lowers(v, 9, 9), NONE, 2);
        range(Scene.WORKED, "lowers by heat", 0, 99, (x, v) -> x.lowers(900, v, 9), NONE, 2);
        range(Scene.WORKED, "lowers by water", 0, 99, (x, v) -> x.lowers(900, 9, v), NONE, 2);
    }

    private static void whys() {
        CHECK.says("CRACKS, as bits. NONE: 1 (no BOOK); 2; 5 (it doesn't).");
        noBook("why(0)", x -> x.why(0), NONE);
        noBook("why(1000)", x -> x.why(1000), NONE);
        outside(Scene.WORKED, "why", 0, 999, TwoMinds::why, NONE, 2);
        outside(Scene.CRACKED, "why", 0, 999, TwoMinds::why, NONE, 2);
        no(Scene.CRACKED, "why(0)", x -> x.why(0), NONE, 5);
        no(Scene.CRACKED, "why(499)", x -> x.why(499), NONE, 5);
        no(Scene.WORKED, "why(999)", x -> x.why(999), NONE, 5);
        TwoMinds x = Scene.CRACKED.make();
        CHECK.due("why(999)", x, x.why(999), 0, 0);
    }

    private static void lays() {
        CHECK.says("DIRT of a LAYER (0 .. 7), or CARBON (8), becomes v: true; false: 1 (no BOOK, too); 2.");
        noBook("lay(0, 0)", x -> yes(x.lay(0, 0)), NO);
        noBook("lay(0, 10000)", x -> yes(x.lay(0, 10000)), NO);
        range(Scene.WORKED, "lay of layer", 0, 8, (x, v) -> yes(x.lay(v, 5)), NO, 1);
        outside(Scene.WORKED, "lay of layer and v", 0, 8, (x, v) -> yes(x.lay(v, -1)), NO, 1);
        for (int layer : new int[] {0, 7, 8}) {
            range(Scene.WORKED, "lay of v", 0, 9999, (x, v) -> yes(x.lay(layer, v)), NO, 2);
        }
    }

    private static void folds() {
        CHECK.says("n FOLDS (1 .. 20): CARBON then. NONE: 1 (no BOOK); 2.");
        noBook("fold(1)", x -> x.fold(1), NONE);
        noBook("fold(0)", x -> x.fold(0), NONE);
        range(Scene.WORKED, "fold", 1, 20, TwoMinds::fold, NONE, 2);
        CHECK.says("till it is EVEN by t (0 .. 9,999). NONE: 1 (no BOOK); 2; 6.");
        noBook("even(0)", x -> x.even(0), NONE);
        noBook("even(-1)", x -> x.even(-1), NONE);
        range(Scene.WORKED, "even", 0, 9999, TwoMinds::even, NONE, 2);
    }

    private static void colours() {
        CHECK.says("COLOUR; -2 for none. NONE: 1 (no BOOK); 2 (HEAT, light).");
        noBook("colour(0, 0)", x -> x.colour(0, 0), NONE);
        noBook("colour(0, 4)", x -> x.colour(0, 4), NONE);
        range(Scene.WORKED, "colour of heat", 0, 999, (x, v) -> x.colour(v, 1), NONE, 2);
        range(Scene.WORKED, "colour of light", 0, 3, (x, v) -> x.colour(500, v), NONE, 2);
    }

    private static void eyes() {
        CHECK.says("NONE: 1 (COLOUR, what); 2 (light, width, hard).");
        noBook("eye(0, 0, 0, 0, 0)", x -> x.eye(0, 0, 0, 0, 0), NONE);
        noBook("eye(0, 4, 0, 0, 0)", x -> x.eye(0, 4, 0, 0, 0), NONE);
        range(Scene.WORKED, "eye of colour", 0, 1, (x, v) -> x.eye(v, 0, 0, 0, 0), NONE, 1);
        range(Scene.WORKED, "eye of what", 0, 2, (x, v) -> x.eye(0, 0, v, 0, 0), NONE, 1);
        outside(Scene.WORKED, "eye of colour and light", 0, 1, (x, v) -> x.eye(v, 4, 0, 0, 0), NONE, 1);
        outside(Scene.WORKED, "eye of what and width", 0, 2, (x, v) -> x.eye(0, 0, v, 3, 0), NONE, 1);
        for (int what = 0; what <= 2; what++) {
            int asked = what;
            range(Scene.WORKED, "eye of light", 0, 3, (x, v) -> x.eye(1, v, asked, 0, 0), NONE, 2);
            range(Scene.WORKED, "eye of width", 0, 2, (x, v) -> x.eye(1, 0, asked, v, 0), NONE, 2);
            range(Scene.WORKED, "eye of hard", 0, 99, (x, v) -> x.eye(1, 0, asked, 1, v), NONE, 2);
        }
    }

    private static void signs() {
        CHECK.says("SHOWN: the days. NONE: 1 (no BOOK); 2 (SIGNS as bits 0 .. 255); 6.");
        noBook("polish(0)", x -> x.polish(0), NONE);
        noBook("polish(256)", x -> x.polish(256), NONE);
        outside(Scene.WORKED, "polish", 0, 255, TwoMinds::polish, NONE, 2);
        no(Scene.WORKED, "polish(8)", x -> x.polish(8), NONE, 6);
        no(Scene.WORKED, "polish(255)", x -> x.polish(255), NONE, 6);
        no(Scene.CRACKED, "polish(2)", x -> x.polish(2), NONE, 6);
        CHECK.says("Its stones as bits. NONE: likewise.");
        noBook("stones(0)", x -> x.stones(0), NONE);
        noBook("stones(-1)", x -> x.stones(-1), NONE);
        outside(Scene.WORKED, "stones", 0, 255, TwoMinds::stones, NONE, 2);
        no(Scene.WORKED, "stones(8)", x -> x.stones(8), NONE, 6);
        no(Scene.WORKED, "stones(255)", x -> x.stones(255), NONE, 6);
        CHECK.says("WHOSE: the smith. NONE: 1 (no smith); 2 (SIGNS as bits).");
        noBook("whose(0)", x -> x.whose(0), NONE);
        noBook("whose(256)", x -> x.whose(256), NONE);
        range(Scene.WORKED, "whose", 0, 255, TwoMinds::whose, NONE, 2);
        CHECK.says("The product of a smith (of all smiths: NONE). -2^63: 1; 2.");
        noBook("odds(0, 0)", x -> x.odds(0, 0), LEAST_LONG);
        noBook("odds(-1, 0)", x -> x.odds(-1, 0), LEAST_LONG);
        noBook("odds(-1, 256)", x -> x.odds(-1, 256), LEAST_LONG);
        range(Scene.WORKED, "odds of smith", -1, 1, (x, v) -> x.odds(v, 3), LEAST_LONG, 1);
        outside(Scene.WORKED, "odds of smith and signs", -1, 1, (x, v) -> x.odds(v, 256), LEAST_LONG, 1);
        range(Scene.WORKED, "odds of signs", 0, 255, (x, v) -> x.odds(1, v), LEAST_LONG, 2);
        range(Scene.WORKED, "odds of all of signs", 0, 255, (x, v) -> x.odds(-1, v), LEAST_LONG, 2);
    }

    private static void learns() {
        CHECK.says("NONE: 1 (no BOOK); 2 (HEAT, water 0 .. 999, CLAY, how it went); 3.");
        noBook("learn(0, 0, 0, 0)", x -> x.learn(0, 0, 0, 0), NONE);
        noBook("learn(0, 0, 0, 3)", x -> x.learn(0, 0, 0, 3), NONE);
        range(Scene.WORKED, "learn of heat", 0, 999, (x, v) -> x.learn(v, 1, 1, 1), NONE, 2);
        range(Scene.WORKED, "learn of water", 0, 999, (x, v) -> x.learn(1, v, 1, 1), NONE, 2);
        range(Scene.WORKED, "learn of clay", 0, 3, (x, v) -> x.learn(1, 1, v, 1), NONE, 2);
        range(Scene.WORKED, "learn of how", 0, 2, (x, v) -> x.learn(1, 1, 1, v), NONE, 2);
        outside(Scene.FULL, "learn of how", 0, 2, (x, v) -> x.learn(1, 1, 1, v), NONE, 2);
        no(Scene.FULL, "learn(1, 1, 1, 1)", x -> x.learn(1, 1, 1, 1), NONE, 3);
        CHECK.says("NEXT; -2 if there is none. NONE: 1 (no BOOK).");
        noBook("next()", TwoMinds::next, NONE);
    }

    private static void quietOnes() {
        CHECK.says("NONE, and none comes, if there would be more than 700.");
        quietNo(Scene.FULL, "size(11)", x -> x.size(11) == 700 ? x.feed(1, 2, 3, 4, 5) : NONE, NONE);
        CHECK.says("-2 if it didn't). NONE for none such.");
        for (int v : new int[] {-1, 2, Integer.MIN_VALUE, Integer.MAX_VALUE}) {
            quietNo(Scene.WORKED, "cell of i " + v, x -> x.cell(v, 0, 0), NONE);
            quietNo(Scene.WORKED, "cell of j " + v, x -> x.cell(0, v, 0), NONE);
            quietNo(Scene.WORKED, "cell of what " + v, x -> x.cell(1, 1, v == 2 ? 5 : v), NONE);
        }
        CHECK.says("DIRT of a LAYER, or CARBON; NONE for none such.");
        CHECK.says("NONE for others; 0 for what there isn't.");
        CHECK.says("NoSuchElementException if there is none such.");
        for (Scene scene : Scene.values()) {
            for (int v : new int[] {-1, Integer.MIN_VALUE, Integer.MAX_VALUE}) {
                quietNo(scene, "layer of " + v, x -> x.layer(v), NONE);
                quietNo(scene, "size of " + v, x -> x.size(v), NONE);
                quietNo(scene, "led of " + v, x -> led(x, v), LEAST_LONG);
            }
            quietNo(scene, "layer of 9", x -> x.layer(9), NONE);
            quietNo(scene, "size of 13", x -> x.size(13), NONE);
            quietNo(scene, "led of as many as turned", x -> led(x, x.size(9)), LEAST_LONG);
        }
        for (Scene scene : BOOKLESS) {
            quietNo(scene, "cell(0, 0, 0)", x -> x.cell(0, 0, 0), NONE);
            quietNo(scene, "layer(0)", x -> x.layer(0), NONE);
            quietNo(scene, "layer(8)", x -> x.layer(8), NONE);
        }
    }

    private static long led(TwoMinds x, int k) {
        try {
            return x.led(k);
        } catch (NoSuchElementException e) {
            return LEAST_LONG;
        }
    }
}

/** Promises 6 to 17 and 34: heat, clay, go, again, cell, pull, curve, bend, crack, cold, cloud, chip, led. */
public final class BarTest {
    /** Two cuts of two cells; the numbers of its tenths are worked out by hand. */
    private static final String FLOWING = "bar long 2 wide 2;water 30 pulls 50 shield 40 flow 10 swell 25"
        + ";kind raw hard 0 room 0 bears 9;kind soft hard 20 room 7 bears 9;kind glass hard 90 room 30 bears 9"
        + ";turn glass below 500 drop 200;turn soft below 500 drop 0";
    private static final int BITS31 = Integer.MIN_VALUE;
    private static final long BITS63 = Long.MIN_VALUE;

    private static final Check CHECK = new Check("BarTest");

    public static void main(String[] args) {
        heats();
        clays();
        tenths();
        backwards();
        pulls();
        cracks();
        edgesOfTurns();
        room();
        refusals();
        clouds();
        cold();
        CHECK.end();
    }

    private static TwoMinds flowing() {
        TwoMinds x = Check.house(FLOWING);
        x.heat(801);
        x.clay(0, 0, 1);
        x.clay(1, 1, 3);
        return x;
    }

    private static void cells(TwoMinds x, String when, int what, int... want) {
        for (int k = 0; k < 4; k++) {
            CHECK.due("cell(" + k / 2 + ", " + k % 2 + ", " + what + ") " + when, x.cell(k / 2, k % 2, what), want[k]);
        }
    }

    private static void heats() {
        TwoMinds x = Check.house(FLOWING);
        cells(x, "of a new book", 0, 0, 0, 0, 0);
        CHECK.due("heat(999)", x, x.heat(999), true, 0);
        cells(x, "heated to 999", 0, 999, 999, 999, 999);
        CHECK.due("heat(1000)", x, x.heat(1000), false, 2);
        CHECK.due("heat(-1)", x, x.heat(-1), false, 2);
        cells(x, "behind refusals", 0, 999, 999, 999, 999);
        CHECK.due("heat(0)", x, x.heat(0), true, 0);
        x.go(1);
        // Water of 30 warms: 50 * (0 - 30) / 100 is -15, by mass 2 it is -7.
        cells(x, "in warmer water", 0, 15, 7, 15, 7);
        x.heat(801);
        x.go(2);
        x.heat(700);
        CHECK.due("tenth of a bar heated anew", x.size(7), 0);
        CHECK.due("turned of a bar heated anew", x.size(9), 0);
        CHECK.due("kind of a bar heated anew", x.cell(1, 0, 1), 0);
        CHECK.due("greatest bend of a bar heated anew", x.bend(2), 0);
        CHECK.noneLed(x, 0);
    }

    private static void clays() {
        TwoMinds x = Check.house(FLOWING);
        CHECK.due("clay(1, 1, 3)", x, x.clay(1, 1, 3), true, 0);
        CHECK.due("clay(0, 0, 4)", x, x.clay(0, 0, 4), false, 2);
        CHECK.due("clay(0, 0, -1)", x, x.clay(0, 0, -1), false, 2);
        CHECK.due("clay(2, 0, 0)", x, x.clay(2, 0, 0), false, 1);
        CHECK.due("clay(0, 2, 9)", x, x.clay(0, 2, 9), false, 1);
        CHECK.due("clay(-1, 0, 0)", x, x.clay(-1, 0, 0), false, 1);
        CHECK.due("clay(0, -1, 0)", x, x.clay(0, -1, 0), false, 1);
        x.heat(900);
        cells(x, "behind heat", 2, 0, 0, 0, 3);
        x.go(1);
        CHECK.due("clay in tenth 1", x, x.clay(0, 0, 1), false, 5);
        CHECK.due("clay 4 in tenth 1", x, x.clay(0, 0, 4), false, 2);
        x.again(0);
        CHECK.due("clay in tenth 0 again", x, x.clay(0, 0, 1), true, 0);
        cells(x, "then", 2, 1, 0, 0, 3);
        CHECK.due("clay that is taken off", x, x.clay(0, 0, 0), true, 0);
        cells(x, "then", 2, 0, 0, 0, 3);
    }

    private static void tenths() {
        TwoMinds x = flowing();
        cells(x, "in tenth 0", 3, 200, 200, 200, 200);
        CHECK.due("bend in tenth 0", x, x.bend(0), 0, 0);
        CHECK.due("go(1)", x, x.go(1), 1, 0);
        cells(x, "in tenth 1", 0, 570, 609, 416, 801);
        cells(x, "in tenth 1", 1, 0, 0, 2, 0);
        cells(x, "in tenth 1", 3, 142, 152, 134, 200);
        cells(x, "in tenth 1", 4, -2, -2, 1, -2);
        CHECK.due("bend in tenth 1", x, x.bend(0), 76, 0);
        CHECK.due("go(1)", x, x.go(1), 1, 0);
        cells(x, "in tenth 2", 0, 396, 481, 276, 744);
        cells(x, "in tenth 2", 1, 1, 1, 2, 0);
        cells(x, "in tenth 2", 3, 106, 127, 99, 186);
        cells(x, "in tenth 2", 4, 2, 2, 1, -2);
        CHECK.due("curve(0)", x, x.curve(0), 21, 0);
        CHECK.due("curve(1)", x, x.curve(1), 87, 0);
        CHECK.due("bend(0)", x, x.bend(0), 108, 0);
        CHECK.due("bend(1)", x, x.bend(1), 0, 0);
        CHECK.due("bend(2)", x, x.bend(2), 108, 0);
        CHECK.due("turned", x.size(9), 3);
        CHECK.due("led(0)", x.led(0), 10);
        CHECK.due("led(1)", x.led(1), 0);
        CHECK.due("led(2)", x.led(2), 1);
        CHECK.noneLed(x, 3);
        CHECK.noneLed(x, -1);
        CHECK.noneLed(x, Integer.MAX_VALUE);
        CHECK.due("pull of two cells across", x, x.pull(1, 0), 0, 0);
    }

    private static void backwards() {
        TwoMinds x = flowing();
        x.go(20);
        CHECK.due("again(21)", x, x.again(21), false, 2);
        CHECK.due("again(-1)", x, x.again(-1), false, 2);
        CHECK.due("again(20)", x, x.again(20), true, 0);
        CHECK.due("again(1)", x, x.again(1), true, 0);
        cells(x, "in tenth 1 again", 0, 570, 609, 416, 801);
        cells(x, "in tenth 1 again", 1, 0, 0, 2, 0);
        cells(x, "in tenth 1 again", 2, 1, 0, 0, 3);
        CHECK.due("greatest bend in tenth 1 again", x.bend(2), 76);
        CHECK.due("turned in tenth 1 again", x.size(9), 1);
        CHECK.noneLed(x, 1);
        CHECK.due("again(2)", x, x.again(2), false, 2);
        CHECK.due("go(1)", x, x.go(1), 1, 0);
        cells(x, "in tenth 2 anew", 0, 396, 481, 276, 744);
        CHECK.due("again(0)", x, x.again(0), true, 0);
        cells(x, "in tenth 0 again", 0, 801, 801, 801, 801);
        CHECK.due("tenth", x.size(7), 0);
    }

    /** No swell, no flow: the cells turn in tenths 1, 3 and 4, and pull by their room alone. */
    private static String brittle(int bears) {
        return "bar long 2 wide 3;water 0 pulls 50 shield 0 flow 0 swell 0;kind raw hard 0 room 0 bears 999"
            + ";kind glass hard 90 room 30 bears " + bears + ";turn glass below 500 drop 0";
    }

    private static void pulls() {
        TwoMinds x = Check.house(brittle(10));
        CHECK.due("whole pull", x.size(12), 24);
        x.heat(900);
        x.go(1);
        CHECK.due("pull(0, 0)", x, x.pull(0, 0), 120, 0);
        CHECK.due("pull(1, 1)", x, x.pull(1, 1), -240, 0);
        CHECK.due("pull(0, 2)", x, x.pull(0, 2), 120, 0);
        CHECK.due("pull(2, 0)", x, x.pull(2, 0), BITS63, 1);
        CHECK.due("pull(0, 3)", x, x.pull(0, 3), BITS63, 1);
        CHECK.due("pull(-1, 0)", x, x.pull(-1, 0), BITS63, 1);
        CHECK.due("curve(1)", x, x.curve(1), -60, 0);
        CHECK.due("curve(2)", x, x.curve(2), BITS31, 1);
        CHECK.due("curve(-1)", x, x.curve(-1), BITS31, 1);
        CHECK.due("bend(1)", x, x.bend(1), -120, 0);
        CHECK.due("bend(2)", x, x.bend(2), 0, 0);
        CHECK.due("bend(3)", x, x.bend(3), BITS31, 1);
        CHECK.due("bend(-1)", x, x.bend(-1), BITS31, 1);
    }

    private static void cracks() {
        TwoMinds whole = Check.house(brittle(10));
        whole.heat(900);
        CHECK.due("a pull that is just borne", whole, whole.go(60), 60, 0);
        CHECK.due("crack(0)", whole, whole.crack(0), -2, 0);
        CHECK.due("crack(2)", whole, whole.crack(2), -2, 0);
        CHECK.due("size(8)", whole.size(8), 0);

        TwoMinds x = Check.house(brittle(9));
        x.heat(900);
        CHECK.due("a pull above what is borne", x, x.go(60), 3, 0);
        CHECK.due("crack(0)", x, x.crack(0), 3, 0);
        CHECK.due("crack(1)", x, x.crack(1), 0, 0);
        CHECK.due("crack(2)", x, x.crack(2), 1, 0);
        CHECK.due("crack(3)", x, x.crack(3), -1, 1);
        CHECK.due("crack(-1)", x, x.crack(-1), -1, 1);
        CHECK.due("size(8)", x.size(8), 1);
        CHECK.due("go of a cracked bar", x, x.go(1), -1, 5);
        CHECK.due("a wrong go of a cracked bar", x, x.go(0), -1, 2);
        CHECK.due("all cuts bend in the tenth of the crack", x, x.bend(0), -120, 0);
        CHECK.due("again(3)", x, x.again(3), true, 0);
        CHECK.due("crack(0) then", x, x.crack(0), 3, 0);
        CHECK.due("again(2)", x, x.again(2), true, 0);
        CHECK.due("crack(0) then", x, x.crack(0), -2, 0);
        CHECK.due("go(5)", x, x.go(5), 1, 0);
        x.heat(400);
        CHECK.due("size(8) of a bar heated anew", x.size(8), 0);
        CHECK.due("go(60)", x, x.go(60), 60, 0);

        TwoMinds clayed = Check.house(brittle(9).replace("shield 0", "shield 60"));
        clayed.heat(900);
        clayed.clay(0, 1, 2);
        clayed.clay(0, 2, 2);
        CHECK.due("a crack in the second cut", clayed, clayed.go(10), 3, 0);
        CHECK.due("its i", clayed, clayed.crack(1), 1, 0);
        CHECK.due("its j", clayed, clayed.crack(2), 1, 0);

        TwoMinds atEdge = Check.house(brittle(9).replace("shield 0", "shield 60"));
        atEdge.heat(900);
        atEdge.clay(0, 1, 2);
        atEdge.clay(1, 1, 2);
        CHECK.due("glass on both sides of raw", atEdge, atEdge.go(10), 4, 0);
        CHECK.due("its i", atEdge, atEdge.crack(1), 0, 0);
        CHECK.due("its j", atEdge, atEdge.crack(2), 0, 0);
    }

    /** Heat 800 falls to 400 and then to 200. */
    private static int kindBehind(String turns, int heat, int tenths) {
        TwoMinds x = Check.house("bar long 1 wide 2;water 0 pulls 50 shield 0 flow 0 swell 0"
            + ";kind a hard 0 room 0 bears 9;kind b hard 0 room 0 bears 9;kind c hard 0 room 0 bears 9;" + turns);
        x.heat(heat);
        x.go(tenths);
        return x.cell(0, 0, 1);
    }

    private static void edgesOfTurns() {
        CHECK.due("below the heat now", kindBehind("turn b below 400 drop 0", 800, 1), 0);
        CHECK.due("below the heat now, a tenth later", kindBehind("turn b below 400 drop 0", 800, 2), 1);
        CHECK.due("just above the heat now", kindBehind("turn b below 401 drop 0", 800, 1), 1);
        CHECK.due("at the heat ahead", kindBehind("turn b below 800 drop 0", 800, 1), 1);
        CHECK.due("above the heat ahead", kindBehind("turn b below 801 drop 0", 800, 1), 0);
        CHECK.due("drop as it fell", kindBehind("turn b below 500 drop 400", 800, 1), 1);
        CHECK.due("drop above what it fell", kindBehind("turn b below 500 drop 400", 798, 1), 0);
        CHECK.due("the first that fits", kindBehind("turn c below 500 drop 0;turn b below 500 drop 0", 800, 1), 2);
        CHECK.due("the second that fits", kindBehind("turn c below 300 drop 0;turn b below 500 drop 0", 800, 1), 1);
        CHECK.due("it turns once", kindBehind("turn c below 300 drop 0;turn b below 500 drop 0", 800, 2), 1);
        CHECK.due("heat that rises turns nothing", kindBehind("turn b below 100 drop 0", 0, 2), 0);
    }

    private static void room() {
        TwoMinds x = Check.house(FLOWING);
        x.heat(900);
        CHECK.due("go(0)", x, x.go(0), -1, 2);
        CHECK.due("go(61)", x, x.go(61), -1, 2);
        for (int k = 0; k < 6; k++) {
            CHECK.due("go(60)", x, x.go(60), 60, 0);
        }
        CHECK.due("go(41) behind 360", x, x.go(41), -1, 3);
        CHECK.due("go(61) behind 360", x, x.go(61), -1, 2);
        CHECK.due("go(40) behind 360", x, x.go(40), 40, 0);
        CHECK.due("tenth", x.size(7), 400);
        CHECK.due("go(1) behind 400", x, x.go(1), -1, 3);
        CHECK.due("again(399)", x, x.again(399), true, 0);
        CHECK.due("go(1) behind 399", x, x.go(1), 1, 0);
    }

    private static void refusals() {
        TwoMinds x = Check.house(FLOWING);
        x.heat(5000);
        CHECK.due("cell(2, 0, 0)", x.cell(2, 0, 0), -1);
        CHECK.due("cell(0, 2, 0)", x.cell(0, 2, 0), -1);
        CHECK.due("cell(-1, 0, 0)", x.cell(-1, 0, 0), -1);
        CHECK.due("cell(0, -1, 0)", x.cell(0, -1, 0), -1);
        CHECK.due("cell(0, 0, 5)", x.cell(0, 0, 5), -1);
        CHECK.due("cell(0, 0, -1)", x.cell(0, 0, -1), -1);
        CHECK.due("trouble of the call ahead of cell", x.trouble(), 2);
        CHECK.due("cloud(2, 0)", x, x.cloud(2, 0), -1, 1);
        CHECK.due("cloud(-1, 100)", x, x.cloud(-1, 100), -1, 1);
        CHECK.due("cloud(0, 100)", x, x.cloud(0, 100), -1, 2);
        CHECK.due("cloud(0, -1)", x, x.cloud(0, -1), -1, 2);
        CHECK.due("chip(2, 0)", x, x.chip(2, 0), -1, 1);
        CHECK.due("chip(-1, 100)", x, x.chip(-1, 100), -1, 1);
        CHECK.due("chip(1, 100)", x, x.chip(1, 100), -1, 2);
        CHECK.due("chip(1, -1)", x, x.chip(1, -1), -1, 2);
    }

    private static void clouds() {
        TwoMinds x = Check.house("bar long 6 wide 3;water 0 pulls 50 shield 50 flow 0 swell 0"
            + ";kind raw hard 10 room 0 bears 999;kind glass hard 90 room 0 bears 999;turn glass below 500 drop 0");
        CHECK.due("cloud of the first kind", x, x.cloud(0, 10), 3, 0);
        CHECK.due("chip of the first kind", x, x.chip(5, 0), 6, 0);
        CHECK.due("cloud above the first kind", x, x.cloud(0, 11), 0, 0);
        x.heat(900);
        x.clay(1, 0, 2);
        x.clay(5, 0, 2);
        x.clay(2, 1, 2);
        x.go(20);
        CHECK.due("a cloud that starts behind the edge", x, x.cloud(1, 90), 0, 0);
        CHECK.due("a cloud with a gap", x, x.cloud(2, 90), 1, 0);
        CHECK.due("a whole cloud", x, x.cloud(3, 90), 3, 0);
        CHECK.due("a cloud of none so hard", x, x.cloud(3, 91), 0, 0);
        int[] chips = {1, 0, 3, 3, 3, 0};
        for (int i = 0; i < chips.length; i++) {
            CHECK.due("chip(" + i + ", 90)", x, x.chip(i, 90), chips[i], 0);
        }
    }

    private static void cold() {
        TwoMinds x = Check.house(FLOWING);
        CHECK.due("cold at 0", x, x.cold(), 1, 0);
        x.heat(99);
        CHECK.due("cold at 99", x, x.cold(), 1, 0);
        x.heat(100);
        CHECK.due("not cold at 100", x, x.cold(), 0, 0);
        x.clay(1, 1, 3);
        x.go(1);
        CHECK.due("not cold while one cell isn't", x, x.cold(), 0, 0);
        x.go(10);
        CHECK.due("cold in the end", x, x.cold(), 1, 0);
        x.heat(150);
        x.clay(1, 1, 0);
        x.clay(0, 0, 3);
        x.go(3);
        CHECK.due("an edge that is hot alone", x.cell(0, 0, 0), 130);
        CHECK.due("is not cold", x, x.cold(), 0, 0);
    }
}

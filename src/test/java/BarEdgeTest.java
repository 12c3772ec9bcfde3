/** The boundary cases of promises 6 to 17 and 34 and of the bar (Terms II), sentence by sentence. */
public final class BarEdgeTest {
    private static final Check CHECK = new Check("BarEdgeTest");

    public static void main(String[] args) {
        heated();
        cellsAtOnce();
        neighboursOneByOne();
        neighboursByHundred();
        neighboursThatThereAre();
        shieldNotBelowNought();
        divisionsInTurn();
        divisionsTowardsNought();
        mass();
        turnsByHeat();
        turnsByFall();
        turnsInOrder();
        turnsOnce();
        warming();
        sizes();
        curves();
        pulls();
        cracksAbove();
        cracksWithoutSign();
        cracksLeast();
        nothingGoesOn();
        coldness();
        clays();
        goes();
        goesToTheEnd();
        agains();
        cells();
        bends();
        clouds();
        chips();
        led();
        CHECK.end();
    }

    private static String book(String bar, String water, String... rest) {
        return bar + ";" + water + ";" + String.join(";", rest);
    }

    /** A bar of two kinds that never turns: its heats alone count. */
    private static TwoMinds plain(int along, int across, String water) {
        return Check.house(book("bar long " + along + " wide " + across, water, "kind a hard 0 room 0 bears 999",
            "kind b hard 0 room 0 bears 999"));
    }

    private static void heats(TwoMinds x, int i, int... want) {
        for (int j = 0; j < want.length; j++) {
            CHECK.due("cell(" + i + ", " + j + ", 0) in tenth " + x.size(7), x.cell(i, j, 0), want[j]);
        }
    }

    private static void heated() {
        CHECK.says("A bar that is HEATED has one HEAT (0 .. 999) in all CELLS, the first KIND, TENTH 0.");
        for (Scene scene : new Scene[] {Scene.BOOKED, Scene.WORKED, Scene.CRACKED, Scene.FULL}) {
            for (int v : new int[] {0, 1, 998, 999}) {
                TwoMinds x = scene.make();
                int clay = x.cell(1, 1, 2);
                CHECK.due("heat(" + v + ")", x, x.heat(v), true, 0);
                for (int i = 0; i < x.size(0); i++) {
                    for (int j = 0; j < x.size(1); j++) {
                        CHECK.due("heat", x.cell(i, j, 0), v);
                        CHECK.due("kind", x.cell(i, j, 1), 0);
                        CHECK.due("turned", x.cell(i, j, 4), -2);
                        CHECK.due("pull", x, x.pull(i, j), 0, 0);
                    }
                }
                CHECK.due("its clay stays", x.cell(1, 1, 2), clay);
                CHECK.due("tenth", x.size(7), 0);
                CHECK.due("cracked", x.size(8), 0);
                CHECK.due("how many turned", x.size(9), 0);
                CHECK.due("crack(0)", x, x.crack(0), -2, 0);
                CHECK.due("bend(1)", x, x.bend(1), 0, 0);
                CHECK.due("bend(2)", x, x.bend(2), 0, 0);
                CHECK.noneLed(x, 0);
                CHECK.due("again(0)", x, x.again(0), true, 0);
                CHECK.due("heat, again", x.cell(0, 0, 0), v);
                CHECK.due("again(1)", x, x.again(1), false, 2);
            }
        }
    }

    private static void cellsAtOnce() {
        CHECK.says("In a TENTH, of all CELLS at once by what they were");
        TwoMinds x = plain(1, 2, "water 0 pulls 50 shield 0 flow 12 swell 0");
        x.heat(800);
        x.go(1);
        heats(x, 0, 400, 600);
        x.go(1);
        // The edge gains 12 by 100 of 200; the cell behind it loses as much, though the edge is 224 by then.
        heats(x, 0, 400 - 200 + 24, 600 - 150 - 24);
    }

    private static void neighboursOneByOne() {
        CHECK.says("HEAT grows by flow times (a neighbour's HEAT less its own) by 100 for each neighbour (along and"
            + " across), one by one");
        TwoMinds x = plain(3, 2, "water 0 pulls 50 shield 50 flow 1 swell 0");
        x.heat(150);
        x.clay(0, 0, 2);
        x.clay(2, 0, 2);
        x.go(1);
        heats(x, 1, 75, 113);
        x.go(1);
        // 75, 75 and 38 more than its own: none of them gives 1, though all of them together would.
        heats(x, 1, 75 - 37, 113 - 28);
    }

    /** One cell alone meets the water: what its neighbours give it, and how much less they have then. */
    private static void neighboursByHundred() {
        CHECK.says("flow times (a neighbour's HEAT less its own) by 100");
        int[][] due = {{1, 198, 0}, {1, 199, 0}, {1, 200, 1}, {1, 398, 1}, {1, 400, 2}, {11, 18, 0}, {12, 18, 1},
            {10, 38, 1}, {10, 39, 1}, {10, 40, 2}};
        for (int[] d : due) {
            TwoMinds x = plain(1, 3, "water 0 pulls 50 shield 50 flow " + d[0] + " swell 0");
            x.heat(d[1]);
            x.clay(0, 1, 2);
            x.clay(0, 2, 2);
            x.go(1);
            int half = d[1] - d[1] / 2;
            heats(x, 0, half, d[1], d[1]);
            x.go(1);
            int flows = d[0] * (d[1] - half) / 100;
            CHECK.due("flow " + d[0] + " of heat " + d[1], flows, d[2]);
            heats(x, 0, half - half / 2 + flows, d[1] - flows, d[1]);
        }
        for (int[] d : due) {
            TwoMinds x = plain(3, 2, "water 0 pulls 50 shield 50 flow " + d[0] + " swell 0");
            x.heat(d[1]);
            for (int k = 0; k < 6; k++) {
                x.clay(k / 2, k % 2, k == 2 ? 0 : 2);
            }
            x.go(1);
            int half = d[1] - d[1] / 2;
            heats(x, 1, half, d[1]);
            x.go(1);
            heats(x, 0, d[1] - d[2], d[1]);
            heats(x, 1, half - half / 2 + 3 * d[2], d[1] - d[2]);
            heats(x, 2, d[1] - d[2], d[1]);
        }
    }

    private static void neighboursThatThereAre() {
        CHECK.says("for each neighbour (along and across), one by one");
        TwoMinds x = plain(2, 5, "water 0 pulls 50 shield 60 flow 12 swell 0");
        x.heat(800);
        x.clay(0, 4, 3);
        x.go(1);
        heats(x, 0, 400, 600, 667, 700, 800);
        heats(x, 1, 400, 600, 667, 700, 720);
        x.go(1);
        // The back of cut 0 and the edge of cut 1 are no neighbours.
        CHECK.due("the edge of cut 1", x.cell(1, 0, 0), 400 - 200 + 24);
        CHECK.due("the back of cut 0", x.cell(0, 4, 0), 800 - 9 - 12);
        CHECK.due("the back of cut 1", x.cell(1, 4, 0), 720 + 9 - 2 - 72);
        TwoMinds y = plain(8, 2, "water 0 pulls 50 shield 60 flow 12 swell 0");
        y.heat(800);
        y.clay(7, 0, 3);
        y.go(2);
        CHECK.due("the first edge is far from the last", y.cell(0, 0, 0), 224);
        CHECK.due("the last but one isn't", y.cell(6, 0, 0), 224 + 48);
        CHECK.due("the last edge", y.cell(7, 0, 0), 800 - 48 - 24);
    }

    private static void shieldNotBelowNought() {
        CHECK.says("(100 less shield times CLAY, 0 at least)");
        int[][] due = {{60, 1, 800}, {60, 2, 999}, {60, 3, 999}, {50, 2, 999}, {50, 3, 999}, {49, 2, 990}, {33, 3, 995},
            {34, 3, 999}, {0, 3, 500}, {1, 3, 515}};
        for (int[] d : due) {
            TwoMinds x = plain(1, 2, "water 0 pulls 50 shield " + d[0] + " flow 0 swell 0");
            x.heat(999);
            x.clay(0, 0, d[1]);
            x.go(1);
            CHECK.due("heat by shield " + d[0] + " and clay " + d[1], x.cell(0, 0, 0), d[2]);
        }
    }

    private static void divisionsInTurn() {
        CHECK.says("(each division in turn, towards 0)");
        TwoMinds x = plain(1, 2, "water 0 pulls 1 shield 40 flow 0 swell 0");
        x.heat(199);
        x.clay(0, 0, 1);
        x.go(1);
        // 199 by 100 is 1, and 60 by 100 of it is 0; both at once would be 1.
        heats(x, 0, 199, 199);
        TwoMinds y = plain(1, 3, "water 0 pulls 50 shield 0 flow 0 swell 0");
        y.heat(11);
        y.go(1);
        heats(y, 0, 6, 9, 10);
    }

    private static void divisionsTowardsNought() {
        CHECK.says("(each division in turn, towards 0)");
        TwoMinds x = plain(1, 3, "water 99 pulls 50 shield 60 flow 0 swell 0");
        x.clay(0, 1, 1);
        x.go(1);
        // -49.5 is -49, 40 by 100 of it (-19.6) is -19 and its half (-9.5) is -9, its third is -16.
        heats(x, 0, 49, 9, 16);
        TwoMinds slow = plain(1, 2, "water 99 pulls 1 shield 0 flow 0 swell 0");
        slow.go(60);
        heats(slow, 0, 0, 0);
        TwoMinds y = plain(1, 2, "water 0 pulls 50 shield 0 flow 1 swell 0");
        y.heat(300);
        y.go(1);
        heats(y, 0, 150, 225);
        y.go(1);
        // 1 by 100 of 75 less is 0, not -1.
        heats(y, 0, 75, 225 - 56);
    }

    private static void mass() {
        CHECK.says("(i along, j across, from the edge on; MASS j and 1)");
        TwoMinds x = plain(1, 5, "water 0 pulls 50 shield 0 flow 0 swell 0");
        x.heat(600);
        x.go(1);
        heats(x, 0, 300, 450, 500, 525, 540);
    }

    /** The kind of the edge: heat 800 falls to 400 and then to 200; the cell behind it falls by 200 first. */
    private static int kind(String turns, int heat, int tenths) {
        TwoMinds x = Check.house(book("bar long 1 wide 2", "water 0 pulls 50 shield 0 flow 0 swell 0",
            "kind a hard 0 room 0 bears 9", "kind b hard 0 room 0 bears 9", "kind c hard 0 room 0 bears 9", turns));
        x.heat(heat);
        x.go(tenths);
        return x.cell(0, 0, 1);
    }

    private static void turnsByHeat() {
        CHECK.says("the first one with below above its HEAT now and not above that of the TENTH ahead");
        CHECK.due("below 399, heat now 400", kind("turn b below 399 drop 0", 800, 1), 0);
        CHECK.due("below 400, heat now 400", kind("turn b below 400 drop 0", 800, 1), 0);
        CHECK.due("below 401, heat now 400", kind("turn b below 401 drop 0", 800, 1), 1);
        CHECK.due("below 799, heat ahead 800", kind("turn b below 799 drop 0", 800, 1), 1);
        CHECK.due("below 800, heat ahead 800", kind("turn b below 800 drop 0", 800, 1), 1);
        CHECK.due("below 801, heat ahead 800", kind("turn b below 801 drop 0", 800, 1), 0);
        CHECK.due("below 801, heat ahead 800, later", kind("turn b below 801 drop 0", 800, 60), 0);
        CHECK.due("below 400, a tenth later", kind("turn b below 400 drop 0", 800, 2), 1);
        CHECK.due("below 900, heat ahead 900", kind("turn b below 900 drop 0", 900, 1), 1);
        CHECK.due("below 100, heat ahead 100", kind("turn b below 100 drop 0", 100, 1), 1);
        CHECK.due("below 100, heat ahead 99", kind("turn b below 100 drop 0", 99, 9), 0);
        CHECK.due("no turn is told", kind("kind d hard 0 room 0 bears 9", 999, 60), 0);
    }

    private static void turnsByFall() {
        CHECK.says("and drop not above by how much it fell");
        CHECK.due("drop 399, it fell by 400", kind("turn b below 500 drop 399", 800, 1), 1);
        CHECK.due("drop 400, it fell by 400", kind("turn b below 500 drop 400", 800, 1), 1);
        CHECK.due("drop 400, it fell by 399", kind("turn b below 500 drop 400", 799, 1), 0);
        CHECK.due("drop 201, it fell by 200", kind("turn b below 300 drop 201", 800, 60), 0);
        CHECK.due("drop 200, it fell by 200", kind("turn b below 300 drop 200", 800, 60), 1);
    }

    private static void turnsInOrder() {
        CHECK.says("of the turns in order the first one");
        CHECK.due("two that fit", kind("turn b below 500 drop 0;turn c below 500 drop 0", 800, 1), 1);
        CHECK.due("two that fit, the other way", kind("turn c below 500 drop 0;turn b below 500 drop 0", 800, 1), 2);
        CHECK.due("a later one that fits alone", kind("turn b below 400 drop 0;turn c below 500 drop 0", 800, 1), 2);
        String six = "turn b below 300 drop 0;turn b below 300 drop 0;turn b below 300 drop 0;turn b below 300 drop 0"
            + ";turn b below 300 drop 0;turn c below 500 drop 0";
        CHECK.due("the sixth that fits alone", kind(six, 800, 1), 2);
    }

    private static void turnsOnce() {
        CHECK.says("it has that KIND from then on.");
        CHECK.due("another turn later", kind("turn b below 500 drop 0;turn c below 300 drop 0", 800, 1), 1);
        CHECK.due("another turn later", kind("turn b below 500 drop 0;turn c below 300 drop 0", 800, 2), 1);
        CHECK.due("another turn, ahead of it in order", kind("turn c below 300 drop 0;turn b below 500 drop 0", 800, 9),
            1);
    }

    private static void warming() {
        CHECK.says("Then each CELL of the first KIND whose HEAT fell");
        TwoMinds x = Check.house(book("bar long 1 wide 2", "water 99 pulls 50 shield 0 flow 0 swell 0",
            "kind a hard 0 room 0 bears 9", "kind b hard 0 room 0 bears 9", "turn b below 100 drop 0"));
        x.go(60);
        CHECK.due("nothing turns that gets warmer", x.size(9), 0);
        x.heat(99);
        x.go(60);
        CHECK.due("nothing turns that stays", x.size(9), 0);
        x.heat(102);
        x.go(1);
        CHECK.due("falling by 1, to 101", x.cell(0, 0, 0), 101);
        x.go(1);
        CHECK.due("falling by 1, to 100", x.cell(0, 0, 0), 100);
        CHECK.due("nothing turns till it is below", x.size(9), 0);
    }

    private static void sizes() {
        CHECK.says("SIZE of a CELL: swell times HEAT by 100, and room of its KIND.");
        TwoMinds x = Check.house(book("bar long 1 wide 2", "water 0 pulls 50 shield 0 flow 0 swell 33",
            "kind a hard 0 room 3 bears 9", "kind b hard 0 room 50 bears 9", "turn b below 100 drop 0"));
        int[][] due = {{0, 3}, {3, 3}, {4, 4}, {303, 102}, {304, 103}, {999, 332}};
        for (int[] d : due) {
            x.heat(d[0]);
            CHECK.due("size by heat " + d[0], x.cell(0, 0, 3), d[1]);
        }
        x.heat(100);
        x.go(1);
        CHECK.due("size of the other kind", x.cell(0, 0, 3), 16 + 50);
    }

    /** Of a cut as wide as told the edge alone turns, in tenth 1, to a kind of room 30. */
    private static String edgeOnly(int along, int wide, int bearsRaw, int bearsGlass) {
        return book("bar long " + along + " wide " + wide, "water 0 pulls 50 shield 50 flow 0 swell 0",
            "kind raw hard 0 room 0 bears " + bearsRaw, "kind glass hard 90 room 30 bears " + bearsGlass,
            "turn glass below 500 drop 300");
    }

    private static void curves() {
        CHECK.says("CURVE: all SIZES times x together (above 0: the back is the longer)");
        int[] due = {-30, -60, -90, -120};
        for (int wide = 2; wide <= 5; wide++) {
            TwoMinds x = Check.house(edgeOnly(8, wide, 999, 999));
            x.heat(900);
            x.clay(7, 0, 2);
            CHECK.due("curve in tenth 0", x, x.curve(0), 0, 0);
            x.go(1);
            CHECK.due("curve(0) of " + wide, x, x.curve(0), due[wide - 2], 0);
            CHECK.due("curve(6) of " + wide, x, x.curve(6), due[wide - 2], 0);
            CHECK.due("curve(7) of " + wide, x, x.curve(7), 0, 0);
            CHECK.says("BEND: all CUTS' CURVES together.");
            CHECK.due("bend(0) of " + wide, x, x.bend(0), 7 * due[wide - 2], 0);
        }
        CHECK.says("(above 0: the back is the longer)");
        TwoMinds back = Check.house(edgeOnly(1, 3, 999, 999).replace("swell 0", "swell 10").replace("room 30", "room 0"));
        back.heat(900);
        back.go(1);
        // Sizes 45, 67 and 75: the back is the longer.
        CHECK.due("curve of a long back", back, back.curve(0), 60, 0);
    }

    private static void pulls() {
        CHECK.says("PULL of a CELL, in parts of wide times all x squared (WHOLE PULL): SIZE times WHOLE PULL, less (all"
            + " SIZES of the CUT together) times (all x squared), less CURVE times x times wide.");
        int[] whole = {4, 24, 80, 200};
        int[][] due = {{0, 0}, {120, -240, 120}, {720, -960, -240, 480}, {2400, -2400, -1200, 0, 1200}};
        for (int wide = 2; wide <= 5; wide++) {
            TwoMinds x = Check.house(edgeOnly(2, wide, 999, 999));
            CHECK.due("whole pull of " + wide, x.size(12), whole[wide - 2]);
            x.heat(900);
            CHECK.due("pull in tenth 0", x, x.pull(0, 0), 0, 0);
            x.go(1);
            for (int j = 0; j < wide; j++) {
                CHECK.due("pull(1, " + j + ") of " + wide, x, x.pull(1, j), due[wide - 2][j], 0);
            }
        }
    }

    private static void crack(String what, TwoMinds x, int tenth, int i, int j) {
        CHECK.due(what + ": tenth", x, x.crack(0), tenth, 0);
        CHECK.due(what + ": i", x, x.crack(1), i, 0);
        CHECK.due(what + ": j", x, x.crack(2), j, 0);
        CHECK.due(what + ": size(8)", x.size(8), tenth == -2 ? 0 : 1);
    }

    private static TwoMinds gone(String text, int heat, int tenths) {
        TwoMinds x = Check.house(text);
        x.heat(heat);
        x.go(tenths);
        return x;
    }

    private static void cracksAbove() {
        CHECK.says("is above bears of its KIND times WHOLE PULL");
        crack("raw bears 10 of 10", gone(edgeOnly(1, 3, 10, 999), 900, 9), -2, -2, -2);
        crack("raw bears 9 of 10", gone(edgeOnly(1, 3, 9, 999), 900, 9), 1, 0, 1);
        crack("glass bears 5 of 5", gone(edgeOnly(1, 3, 999, 5), 900, 9), -2, -2, -2);
        crack("glass bears 4 of 5", gone(edgeOnly(1, 3, 999, 4), 900, 9), 1, 0, 0);
        crack("wide 4, raw bears 12 of 12", gone(edgeOnly(1, 4, 12, 9), 900, 9), -2, -2, -2);
        crack("wide 4, raw bears 11 of 12", gone(edgeOnly(1, 4, 11, 9), 900, 9), 1, 0, 1);
        crack("wide 4, glass bears 8 of 9", gone(edgeOnly(1, 4, 12, 8), 900, 9), 1, 0, 0);
        crack("wide 5, 12 of 12", gone(edgeOnly(1, 5, 12, 12), 900, 9), -2, -2, -2);
        crack("wide 5, raw bears 11 of 12", gone(edgeOnly(1, 5, 11, 12), 900, 9), 1, 0, 1);
        crack("two across never crack", gone(edgeOnly(8, 2, 1, 1), 999, 60), -2, -2, -2);
    }

    private static void cracksWithoutSign() {
        CHECK.says("A bar CRACKS in the TENTH behind which some CELL's PULL, without sign");
        TwoMinds below = gone(edgeOnly(1, 3, 9, 999), 900, 1);
        CHECK.due("a pull below 0 cracks", below, below.pull(0, 1), -240, 0);
        crack("a pull below 0 cracks", below, 1, 0, 1);
        TwoMinds above = gone(edgeOnly(1, 3, 999, 4), 900, 1);
        CHECK.due("a pull above 0 cracks", above, above.pull(0, 0), 120, 0);
        crack("a pull above 0 cracks", above, 1, 0, 0);
    }

    private static void cracksLeast() {
        CHECK.says("Where it CRACKED: 0 TENTH, 1 i, 2 j; -2 if it didn't.");
        CHECK.says("(least i, then j)");
        crack("all cuts crack", gone(edgeOnly(8, 3, 9, 4), 900, 1), 1, 0, 0);
        TwoMinds last = Check.house(edgeOnly(8, 3, 9, 999));
        last.heat(900);
        for (int i = 0; i < 7; i++) {
            last.clay(i, 0, 2);
        }
        last.go(1);
        crack("the last cut alone cracks", last, 1, 7, 1);
        // In tenth 4 the back of cut 0 and the edge of cut 1 turn and crack, and nothing else does.
        TwoMinds x = Check.house(edgeOnly(2, 3, 999, 4).replace("shield 50", "shield 33").replace("drop 300", "drop 0"));
        x.heat(900);
        x.clay(0, 0, 3);
        x.clay(0, 1, 3);
        x.clay(1, 0, 2);
        x.clay(1, 1, 3);
        x.clay(1, 2, 3);
        CHECK.due("go(60)", x, x.go(60), 4, 0);
        CHECK.due("the edge of cut 1 has turned", x.cell(1, 0, 4), 4);
        CHECK.due("and would crack", x, x.pull(1, 0), 120, 0);
        crack("the least i ahead of the least j", x, 4, 0, 2);
        CHECK.due("led(0)", x.led(0), 2);
        CHECK.due("led(1)", x.led(1), 10);
        CHECK.noneLed(x, 2);
    }

    private static void nothingGoesOn() {
        CHECK.says("nothing goes on with it then.");
        TwoMinds x = Scene.CRACKED.make();
        int heat = x.cell(1, 2, 0);
        CHECK.due("go(1)", x, x.go(1), -1, 5);
        CHECK.due("heat", x.cell(1, 2, 0), heat);
        CHECK.due("tenth", x.size(7), 3);
        CHECK.due("again(2)", x, x.again(2), true, 0);
        CHECK.due("whole again", x.size(8), 0);
        CHECK.due("go(60)", x, x.go(60), 1, 0);
        CHECK.due("cracked again", x.size(8), 1);
        CHECK.due("heat(900)", x, x.heat(900), true, 0);
        CHECK.due("go(2)", x, x.go(2), 2, 0);
    }

    private static void coldness() {
        CHECK.says("COLD: no CELL's HEAT is above 99.");
        int[][] due = {{0, 1}, {98, 1}, {99, 1}, {100, 0}, {101, 0}, {999, 0}};
        TwoMinds x = plain(8, 5, "water 0 pulls 50 shield 60 flow 0 swell 0");
        for (int[] d : due) {
            x.heat(d[0]);
            CHECK.due("cold by heat " + d[0], x, x.cold(), d[1], 0);
        }
        for (int k = 0; k < 40; k += 13) {
            x.heat(100);
            x.clay(k / 5, k % 5, 2);
            x.go(1);
            CHECK.due("one cell of heat 100", x, x.cold(), 0, 0);
            x.again(0);
            x.clay(k / 5, k % 5, 0);
            x.go(1);
            CHECK.due("no cell of heat 100", x, x.cold(), 1, 0);
        }
    }

    private static void clays() {
        CHECK.says("each with a HEAT, a KIND, CLAY 0 .. 3.");
        CHECK.says("A CELL's CLAY becomes t: true");
        TwoMinds x = Check.house(edgeOnly(8, 5, 999, 999));
        int[][] corners = {{0, 0}, {0, 4}, {7, 0}, {7, 4}};
        for (int[] c : corners) {
            for (int t = 3; t >= 0; t--) {
                CHECK.due("clay of a corner", x, x.clay(c[0], c[1], t), true, 0);
                CHECK.due("its clay", x.cell(c[0], c[1], 2), t);
            }
            x.clay(c[0], c[1], 3);
        }
        for (int k = 0; k < 40; k++) {
            boolean corner = k / 5 % 7 == 0 && k % 5 % 4 == 0;
            CHECK.due("clay of cell " + k, x.cell(k / 5, k % 5, 2), corner ? 3 : 0);
        }
        CHECK.says("5 (TENTH isn't 0)");
        x.heat(500);
        CHECK.due("clay in tenth 0", x, x.clay(3, 3, 1), true, 0);
        x.go(1);
        CHECK.due("clay in tenth 1", x, x.clay(3, 3, 2), false, 5);
        CHECK.due("it stays", x.cell(3, 3, 2), 1);
        x.again(0);
        CHECK.due("clay in tenth 0 again", x, x.clay(3, 3, 2), true, 0);
        x.go(1);
        x.heat(500);
        CHECK.due("clay in tenth 0 of a bar heated anew", x, x.clay(3, 3, 3), true, 0);
        CHECK.due("it changes", x.cell(3, 3, 2), 3);
    }

    private static void goes() {
        CHECK.says("n TENTHS (1 .. 60), till it CRACKS: how many went.");
        TwoMinds once = gone(Scene.SMALL, 801, 60);
        TwoMinds parts = Check.house(Scene.SMALL);
        parts.heat(801);
        for (int k = 0; k < 60; k++) {
            CHECK.due("go(1)", parts, parts.go(1), 1, 0);
        }
        CHECK.due("tenth", parts.size(7), 60);
        CHECK.yes("60 at once or one by one", Look.whole(once).equals(Look.whole(parts)));
        for (int n = 1; n <= 3; n++) {
            TwoMinds x = Check.house(Scene.BRITTLE);
            x.heat(900);
            CHECK.due("go(" + n + ") till the crack", x, x.go(n), n, 0);
            CHECK.due("cracked", x.size(8), n == 3 ? 1 : 0);
        }
        for (int n : new int[] {4, 59, 60}) {
            TwoMinds x = Check.house(Scene.BRITTLE);
            x.heat(900);
            CHECK.due("go(" + n + ") beyond the crack", x, x.go(n), 3, 0);
            CHECK.due("tenth", x.size(7), 3);
        }
        TwoMinds still = Check.house(Scene.BRITTLE);
        CHECK.due("tenths of a bar as cold as the water", still, still.go(60), 60, 0);
    }

    private static void goesToTheEnd() {
        CHECK.says("3 (TENTH would be above 400)");
        for (int n : new int[] {1, 2, 59, 60}) {
            TwoMinds x = Check.house(Scene.SMALL);
            x.heat(999);
            int left = 401 - n;
            while (left > 0) {
                int step = Math.min(60, left);
                CHECK.due("go(" + step + ")", x, x.go(step), step, 0);
                left -= step;
            }
            CHECK.due("go(" + n + ") to 401", x, x.go(n), -1, 3);
            CHECK.due("tenth", x.size(7), 401 - n);
            if (n > 1) {
                CHECK.due("go to 400", x, x.go(n - 1), n - 1, 0);
            }
            CHECK.due("tenth", x.size(7), 400);
            CHECK.due("go(1) to 401", x, x.go(1), -1, 3);
            CHECK.due("again(340)", x, x.again(340), true, 0);
            CHECK.due("go(60) to 400", x, x.go(60), 60, 0);
            CHECK.due("again(400)", x, x.again(400), true, 0);
            CHECK.due("tenth", x.size(7), 400);
        }
    }

    private static void agains() {
        CHECK.says("The bar as it was behind a TENTH (0 .. now)");
        for (String text : new String[] {Scene.SMALL, Scene.BRITTLE}) {
            int most = text.equals(Scene.SMALL) ? 9 : 3;
            for (int tenth = 0; tenth <= most; tenth++) {
                TwoMinds x = gone(text, 900, most);
                CHECK.due("again(" + tenth + ")", x, x.again(tenth), true, 0);
                CHECK.due("tenth", x.size(7), tenth);
                CHECK.due("a later one is gone", x, x.again(tenth + 1), false, 2);
                TwoMinds y = Check.house(text);
                y.heat(900);
                if (tenth > 0) {
                    y.go(tenth);
                }
                CHECK.yes("as it was behind " + tenth, Look.whole(x).equals(Look.whole(y)));
            }
        }
        TwoMinds clayed = Scene.WORKED.make();
        clayed.again(0);
        CHECK.due("its clay stays", clayed.cell(1, 1, 2), 3);
        CHECK.due("its heat is that to which it was heated", clayed.cell(1, 1, 0), 801);
        CHECK.due("its layers stay", clayed.layer(2), 77);
        CHECK.due("its blades stay", clayed.size(10), 3);
    }

    private static void cells() {
        CHECK.says("4 the TENTH in which it turned (-2 if it didn't).");
        TwoMinds x = Scene.CRACKED.make();
        int[] due = {1, 3, -2};
        for (int j = 0; j < 3; j++) {
            CHECK.due("the tenth of cell " + j, x.cell(0, j, 4), due[j]);
            CHECK.due("the kind of cell " + j, x.cell(1, j, 1), due[j] > 0 ? 1 : 0);
        }
        x.again(2);
        CHECK.due("it hasn't turned yet", x.cell(0, 1, 4), -2);
        x.again(1);
        CHECK.due("the edge has", x.cell(1, 0, 4), 1);
        x.again(0);
        CHECK.due("the edge hasn't", x.cell(1, 0, 4), -2);
        CHECK.says("what 0 HEAT, 1 KIND, 2 CLAY, 3 SIZE");
        TwoMinds y = Scene.WORKED.make();
        for (int what : new int[] {-1, 5, 6, Integer.MAX_VALUE, Integer.MIN_VALUE}) {
            CHECK.due("what " + what, y.cell(0, 0, what), -1);
        }
    }

    private static void bends() {
        CHECK.says("what 0 now, 1 the least, 2 the greatest behind any TENTH so far (0, too).");
        TwoMinds forward = Check.house(edgeOnly(2, 3, 999, 999));
        forward.heat(900);
        forward.go(1);
        CHECK.due("the greatest is that of tenth 0", forward, forward.bend(2), 0, 0);
        CHECK.due("the least is now", forward, forward.bend(1), -120, 0);
        // No room, but swell: the back is longer till it is as cold as the edge.
        TwoMinds back = Check.house(edgeOnly(1, 3, 999, 999).replace("swell 0", "swell 10").replace("room 30", "room 0"));
        back.heat(900);
        int[] bends = {60, 80, 82};
        for (int bend : bends) {
            back.go(1);
            CHECK.due("bend(0)", back, back.bend(0), bend, 0);
            CHECK.due("the least is that of tenth 0", back, back.bend(1), 0, 0);
            CHECK.due("the greatest is now", back, back.bend(2), bend, 0);
        }
        back.go(1);
        CHECK.due("it bends back", back, back.bend(0), 76, 0);
        CHECK.due("the greatest isn't now", back, back.bend(2), 82, 0);
        back.go(60);
        CHECK.due("it has bent back", back, back.bend(0), 0, 0);
        CHECK.due("the greatest stays", back, back.bend(2), 82, 0);
        back.again(1);
        CHECK.due("the greatest in tenth 1 again", back, back.bend(2), 60, 0);
        back.again(0);
        CHECK.due("the greatest in tenth 0 again", back, back.bend(2), 0, 0);
        back.go(1);
        back.heat(900);
        CHECK.due("the greatest of a bar heated anew", back, back.bend(2), 0, 0);
    }

    private static void clouds() {
        CHECK.says("HARD: hard of a CELL's KIND is no less than told.");
        TwoMinds x = Check.house(edgeOnly(2, 5, 999, 999));
        x.heat(900);
        x.clay(1, 0, 2);
        CHECK.due("hard 0 is all there is", x, x.cloud(0, 0), 5, 0);
        CHECK.due("hard 1 is none of the first kind", x, x.cloud(0, 1), 0, 0);
        x.go(1);
        CHECK.due("hard 89", x, x.cloud(0, 89), 1, 0);
        CHECK.due("hard 90", x, x.cloud(0, 90), 1, 0);
        CHECK.due("hard 91", x, x.cloud(0, 91), 0, 0);
        CHECK.due("hard 99", x, x.cloud(0, 99), 0, 0);
        CHECK.due("hard 90 of a cut that is raw", x, x.cloud(1, 90), 0, 0);
        CHECK.due("hard 0 of both kinds", x, x.cloud(0, 0), 5, 0);
        CHECK.says("CLOUD of a CUT: how many CELLS from the edge on are HARD, one beside the other.");
        TwoMinds y = Check.house(edgeOnly(4, 5, 999, 999).replace("drop 300", "drop 0"));
        y.heat(900);
        y.clay(1, 0, 2);
        y.clay(2, 2, 2);
        y.clay(3, 4, 2);
        y.go(60);
        int[] clouds = {5, 0, 2, 4};
        for (int i = 0; i < 4; i++) {
            CHECK.due("cloud of cut " + i, y, y.cloud(i, 90), clouds[i], 0);
        }
    }

    private static void chips() {
        CHECK.says("A CHIP from a CUT: how far it runs along the edge both ways through CELLS (j 0) that are HARD (0 if"
            + " its own isn't).");
        String[] edges = {"########", "........", "#.......", ".......#", "###.####", ".######.", "#.#.#.#.", "##....##"};
        for (String edge : edges) {
            TwoMinds x = Check.house(edgeOnly(8, 2, 999, 999));
            x.heat(900);
            for (int i = 0; i < 8; i++) {
                x.clay(i, 0, edge.charAt(i) == '#' ? 0 : 2);
            }
            x.go(1);
            for (int i = 0; i < 8; i++) {
                int from = edge.lastIndexOf('.', i);
                int to = (edge + ".").indexOf('.', i);
                int due = from == i ? 0 : to - from - 1;
                CHECK.due("chip(" + i + ", 90) of " + edge, x, x.chip(i, 90), due, 0);
                CHECK.due("chip(" + i + ", 91) of " + edge, x, x.chip(i, 91), 0, 0);
            }
            CHECK.due("chip of hard 0 of " + edge, x, x.chip(3, 0), 8, 0);
        }
        TwoMinds one = Check.house(edgeOnly(1, 5, 999, 999));
        CHECK.due("chip of one cut", one, one.chip(0, 0), 1, 0);
        CHECK.due("chip of one cut that is soft", one, one.chip(0, 1), 0, 0);
    }

    private static void led() {
        CHECK.says("The i-th (0: the first) CELL that turned (by TENTHS, then i, then j): 10 times i and j.");
        TwoMinds x = Check.house(edgeOnly(8, 5, 999, 999).replace("drop 300", "drop 0"));
        x.heat(500);
        x.clay(2, 0, 1);
        CHECK.noneLed(x, 0);
        x.go(1);
        CHECK.due("all cells turn in tenth 1", x.size(9), 40);
        for (int k = 0; k < 40; k++) {
            CHECK.due("led(" + k + ")", x.led(k), k / 5 * 10 + k % 5);
        }
        CHECK.noneLed(x, 40);
        CHECK.noneLed(x, -1);
        x.heat(900);
        x.clay(2, 0, 0);
        x.clay(0, 0, 1);
        x.go(2);
        // In tenth 1 the edges but for the clayed one (900, 675) turn; in tenth 2 that one does (675, 507: no).
        CHECK.due("the edges but one", x.size(9), 7);
        CHECK.due("led(0)", x.led(0), 10);
        CHECK.due("led(6)", x.led(6), 70);
        CHECK.noneLed(x, 7);
        x.go(1);
        CHECK.due("then all those behind the edge, and it", x.size(9), 16);
        CHECK.due("led(7)", x.led(7), 0);
        CHECK.due("led(8)", x.led(8), 1);
        CHECK.due("led(9)", x.led(9), 11);
        CHECK.due("led(15)", x.led(15), 71);
        CHECK.noneLed(x, 16);
        x.again(1);
        CHECK.due("led(6) again", x.led(6), 70);
        CHECK.noneLed(x, 7);
    }
}

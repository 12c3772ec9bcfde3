/** The boundary cases of promises 22 to 26, 28 to 33, 35 and 36 (Terms III and IV), sentence by sentence. */
public final class RestEdgeTest {
    private static final String WHOLE = "bar long 2 wide 3;water 10 pulls 20 shield 30 flow 4 swell 5"
        + ";kind raw hard 0 room 0 bears 9;kind glass hard 90 room 20 bears 10";

    private static final Check CHECK = new Check("RestEdgeTest");

    public static void main(String[] args) {
        laysAndLayers();
        halves();
        layersAlike();
        carbon();
        howManyFolds();
        evens();
        evenFromNowOn();
        spans();
        firstRed();
        lights();
        fewestDays();
        lesserNumber();
        allSigns();
        noStones();
        products();
        greatest();
        allSmiths();
        noSmiths();
        blades();
        ways();
        inThatAlone();
        betterLessWorse();
        firstAndAboveNought();
        mostBlades();
        nextAgain();
        sizes();
        sizesOfNothing();
        troubles();
        CHECK.end();
    }

    private static TwoMinds laid(int... dirt) {
        TwoMinds x = Check.house(WHOLE);
        for (int k = 0; k < dirt.length; k++) {
            CHECK.due("lay(" + k + ", " + dirt[k] + ")", x, x.lay(k, dirt[k]), true, 0);
        }
        return x;
    }

    private static void layers(TwoMinds x, int... want) {
        for (int k = 0; k < want.length; k++) {
            CHECK.due("layer(" + k + ")", x.layer(k), want[k]);
        }
    }

    // ---- folds

    private static void laysAndLayers() {
        CHECK.says("DIRT of 8 LAYERS (0 .. 9,999) and CARBON (0 .. 9,999)");
        CHECK.says("DIRT of a LAYER (0 .. 7), or CARBON (8), becomes v");
        for (int layer = 0; layer <= 8; layer++) {
            TwoMinds x = Check.house(WHOLE);
            for (int v : new int[] {9999, 0, 1, 9998}) {
                CHECK.due("lay(" + layer + ", " + v + ")", x, x.lay(layer, v), true, 0);
                for (int other = 0; other <= 8; other++) {
                    CHECK.due("layer(" + other + ")", x.layer(other), other == layer ? v : 0);
                }
            }
            CHECK.due("9,999 and one", x, x.lay(layer, 10000), false, 2);
            CHECK.due("it stays", x.layer(layer), 9998);
        }
        CHECK.says("DIRT of a LAYER, or CARBON; NONE for none such.");
        TwoMinds y = laid(1, 2, 3, 4, 5, 6, 7, 8, 9);
        layers(y, 1, 2, 3, 4, 5, 6, 7, 8, 9, -1);
        CHECK.due("layer(-1)", y.layer(-1), -1);
    }

    private static void halves() {
        CHECK.says("a FOLD makes each LAYER k half of (LAYERS 2 k and 2 k and 1 together) for k 0 .. 3, downwards");
        TwoMinds x = laid(0, 1, 1, 2, 9999, 9999, 9998, 9999);
        CHECK.due("fold(1)", x, x.fold(1), 0, 0);
        layers(x, 0, 1, 9999, 9998, 9998, 9999, 1, 0, 0);
        TwoMinds least = laid(0, 0, 0, 0, 0, 0, 0, 1);
        least.fold(1);
        layers(least, 0, 0, 0, 0, 0, 0, 0, 0, 0);
        TwoMinds most = laid(9999, 9999, 9999, 9999, 9999, 9999, 9999, 9999, 9999);
        CHECK.due("fold(20) of the most", most, most.fold(20), carbonBehind(9999, 20), 0);
        layers(most, 9999, 9999, 9999, 9999, 9999, 9999, 9999, 9999);
    }

    private static void layersAlike() {
        CHECK.says("and of those 7 less k the same as k");
        TwoMinds x = laid(10, 20, 30, 40, 50, 60, 70, 80);
        x.fold(1);
        layers(x, 15, 35, 55, 75, 75, 55, 35, 15, 0);
        x.fold(1);
        layers(x, 25, 65, 65, 25, 25, 65, 65, 25, 0);
        x.fold(1);
        layers(x, 45, 45, 45, 45, 45, 45, 45, 45, 0);
    }

    private static int carbonBehind(int carbon, int folds) {
        int left = carbon;
        for (int k = 0; k < folds; k++) {
            left = left - left / 50;
        }
        return left;
    }

    private static void carbon() {
        CHECK.says("CARBON loses its fiftieth (downwards).");
        int[][] due = {{0, 0}, {1, 1}, {49, 49}, {50, 49}, {51, 50}, {99, 98}, {100, 98}, {149, 147}, {150, 147},
            {9950, 9751}, {9999, 9800}};
        for (int[] d : due) {
            TwoMinds x = Check.house(WHOLE);
            x.lay(8, d[0]);
            CHECK.due("fold(1) of carbon " + d[0], x, x.fold(1), d[1], 0);
            CHECK.due("layer(8)", x.layer(8), d[1]);
            layers(x, 0, 0, 0, 0, 0, 0, 0, 0);
        }
    }

    private static void howManyFolds() {
        CHECK.says("n FOLDS (1 .. 20): CARBON then.");
        for (int n : new int[] {1, 2, 19, 20}) {
            TwoMinds once = laid(1, 2, 4, 8, 16, 32, 64, 128, 9999);
            CHECK.due("fold(" + n + ")", once, once.fold(n), carbonBehind(9999, n), 0);
            TwoMinds parts = laid(1, 2, 4, 8, 16, 32, 64, 128, 9999);
            for (int k = 1; k <= n; k++) {
                CHECK.due("fold(1)", parts, parts.fold(1), carbonBehind(9999, k), 0);
            }
            for (int layer = 0; layer <= 8; layer++) {
                CHECK.due("layer(" + layer + ")", once.layer(layer), parts.layer(layer));
            }
            CHECK.due("fold(0)", once, once.fold(0), -1, 2);
            CHECK.due("fold(21)", once, once.fold(21), -1, 2);
            CHECK.due("carbon stays", once.layer(8), carbonBehind(9999, n));
        }
    }

    private static void evens() {
        CHECK.says("EVEN by t: the greatest DIRT less the least is t at most.");
        TwoMinds x = laid(10, 20, 30, 40, 50, 60, 70, 80, 9999);
        int[][] due = {{9999, 0}, {71, 0}, {70, 0}, {69, 1}, {61, 1}, {60, 1}, {59, 2}, {40, 2}, {39, 3}, {1, 3}, {0, 3}};
        for (int[] d : due) {
            CHECK.due("even(" + d[0] + ")", x, x.even(d[0]), d[1], 0);
        }
        TwoMinds flat = laid(5, 5, 5, 5, 5, 5, 5, 5, 9999);
        CHECK.due("even(0) of what is even", flat, flat.even(0), 0, 0);
        TwoMinds ends = laid(9999, 0, 0, 0, 0, 0, 0, 0);
        CHECK.due("even(9999)", ends, ends.even(9999), 0, 0);
        CHECK.due("even(9998)", ends, ends.even(9998), 1, 0);
        CHECK.due("even(4999)", ends, ends.even(4999), 1, 0);
        CHECK.due("even(4998)", ends, ends.even(4998), 2, 0);
        CHECK.due("even(2499)", ends, ends.even(2499), 2, 0);
        CHECK.due("even(2498)", ends, ends.even(2498), 3, 0);
        TwoMinds last = laid(0, 0, 0, 0, 0, 0, 0, 9);
        CHECK.due("the last layer counts", last, last.even(8), 1, 0);
        TwoMinds first = laid(9, 0, 0, 0, 0, 0, 0, 0);
        CHECK.due("the first layer counts", first, first.even(8), 1, 0);
    }

    private static void evenFromNowOn() {
        CHECK.says("How many FOLDS from now on (up to 20) till it is EVEN by t");
        TwoMinds x = laid(10, 20, 30, 40, 50, 60, 70, 80, 500);
        for (int folds = 3; folds >= 0; folds--) {
            CHECK.due("even(0)", x, x.even(0), folds, 0);
            CHECK.due("carbon, which even leaves as it is", x.layer(8), carbonBehind(500, 3 - folds));
            x.fold(1);
        }
        CHECK.due("even(0) in the end", x, x.even(0), 0, 0);
    }

    // ---- colours

    private static void spans() {
        CHECK.says("the first one in whose span HEAT and 15 times light lies.");
        TwoMinds x = Check.house(WHOLE + ";red a 400 to 499;red b 600 to 600");
        int[][] due = {{399, -2}, {400, 0}, {499, 0}, {500, -2}, {599, -2}, {600, 1}, {601, -2}, {0, -2}, {999, -2}};
        for (int light = 0; light <= 3; light++) {
            for (int[] d : due) {
                int heat = d[0] - 15 * light;
                if (heat >= 0) {
                    CHECK.due("colour(" + heat + ", " + light + ")", x, x.colour(heat, light), d[1], 0);
                }
            }
        }
    }

    private static void firstRed() {
        CHECK.says("of the reds in order the first one");
        TwoMinds x = Check.house(WHOLE + ";red a 500 to 500;red b 400 to 600;red c 100 to 999;red d 100 to 999"
            + ";red e 450 to 550;red f 999 to 999");
        int[][] due = {{500, 0}, {499, 1}, {501, 1}, {400, 1}, {399, 2}, {600, 1}, {601, 2}, {100, 2}, {99, -2}, {999, 2}};
        for (int[] d : due) {
            CHECK.due("colour(" + d[0] + ", 0)", x, x.colour(d[0], 0), d[1], 0);
        }
        TwoMinds six = Check.house(WHOLE + ";red a 100 to 100;red b 101 to 101;red c 102 to 102;red d 103 to 103"
            + ";red e 104 to 104;red f 105 to 105");
        for (int k = 0; k < 6; k++) {
            CHECK.due("colour of the red " + k, six, six.colour(100 + k, 0), k, 0);
        }
    }

    private static void lights() {
        CHECK.says("A COLOUR of a HEAT by a light (0 .. 3)");
        TwoMinds x = Check.house(WHOLE + ";red a 100 to 999");
        int[] least = {100, 85, 70, 55};
        int[] most = {999, 984, 969, 954};
        for (int light = 0; light <= 3; light++) {
            CHECK.due("just too dark", x, x.colour(least[light] - 1, light), -2, 0);
            CHECK.due("just so bright", x, x.colour(least[light], light), 0, 0);
            CHECK.due("still so dark", x, x.colour(most[light], light), 0, 0);
            if (light > 0) {
                CHECK.due("too bright", x, x.colour(most[light] + 1, light), -2, 0);
                CHECK.due("far too bright", x, x.colour(999, light), -2, 0);
            }
            CHECK.due("heat 0", x, x.colour(0, light), -2, 0);
        }
        TwoMinds none = Check.house(WHOLE);
        CHECK.due("colour without reds", none, none.colour(500, 0), -2, 0);
    }

    // ---- stones

    private static void shown(TwoMinds x, int signs, int days, int stones) {
        CHECK.due("polish(" + signs + ")", x, x.polish(signs), days, days < 0 ? 6 : 0);
        CHECK.due("stones(" + signs + ")", x, x.stones(signs), stones, stones < 0 ? 6 : 0);
    }

    private static void fewestDays() {
        CHECK.says("SHOWN: some stones, of fewest days together, that show all SIGNS asked for");
        TwoMinds x = Check.house(WHOLE + ";stone a days 7 shows 0,1,2;stone b days 3 shows 0;stone c days 3 shows 1"
            + ";stone d days 2 shows 2;stone e days 20 shows 0,1,2,7");
        shown(x, 1, 3, 2);
        shown(x, 2, 3, 4);
        shown(x, 4, 2, 8);
        shown(x, 3, 6, 6);
        shown(x, 5, 5, 10);
        shown(x, 7, 7, 1);
        shown(x, 128, 20, 16);
        shown(x, 135, 20, 16);
        shown(x, 8, -1, -1);
        shown(x, 136, -1, -1);
        shown(x, 255, -1, -1);
    }

    private static void lesserNumber() {
        CHECK.says("of like ones the lesser number as bits.");
        TwoMinds x = Check.house(WHOLE + ";stone a days 4 shows 0,1;stone b days 2 shows 0;stone c days 2 shows 1"
            + ";stone d days 2 shows 0,3;stone e days 4 shows 0,1,2;stone f days 2 shows 3");
        shown(x, 1, 2, 2);
        shown(x, 2, 2, 4);
        shown(x, 3, 4, 1);
        shown(x, 8, 2, 8);
        shown(x, 9, 2, 8);
        shown(x, 10, 4, 12);
        shown(x, 11, 4, 12);
        shown(x, 4, 4, 16);
        shown(x, 12, 6, 24);
    }

    private static void allSigns() {
        CHECK.says("2 (SIGNS as bits 0 .. 255)");
        StringBuilder text = new StringBuilder(WHOLE);
        String[] shows = {"0", "1", "2", "3", "4", "5,6,7"};
        for (int k = 0; k < 6; k++) {
            text.append(";stone s").append((char) ('a' + k)).append(" days 20 shows ").append(shows[k]);
        }
        TwoMinds x = Check.house(text.toString());
        shown(x, 255, 120, 63);
        shown(x, 0, 0, 0);
        shown(x, 128, 20, 32);
        shown(x, 1, 20, 1);
        for (int signs : new int[] {256, -1, 257, 511, 1 << 31, Integer.MAX_VALUE}) {
            CHECK.due("polish(" + signs + ")", x, x.polish(signs), -1, 2);
            CHECK.due("stones(" + signs + ")", x, x.stones(signs), -1, 2);
        }
    }

    private static void noStones() {
        CHECK.says("SHOWN: the days. NONE: 1 (no BOOK); 2 (SIGNS as bits 0 .. 255); 6.");
        TwoMinds x = Check.house(WHOLE);
        shown(x, 0, 0, 0);
        shown(x, 1, -1, -1);
        shown(x, 255, -1, -1);
        CHECK.due("polish(256)", x, x.polish(256), -1, 2);
    }

    // ---- smiths

    private static final String SMITHS = WHOLE + ";smith a 2,3;smith b 6;smith c 1,6,1,1,1,1,1,9;smith d 1,6,1,1,1,1,1,9"
        + ";smith e 1";

    private static void products() {
        CHECK.says("of each smith the product of WHOLES of the SIGNS that are there (1 for those it hasn't told)");
        TwoMinds x = Check.house(SMITHS);
        int[][] due = {{0, 0, 1}, {0, 1, 2}, {0, 2, 3}, {0, 3, 6}, {0, 4, 1}, {0, 255, 6}, {0, 252, 1}, {1, 255, 6}, {1, 254, 1},
            {2, 128, 9}, {2, 130, 54}, {2, 127, 6}, {4, 255, 1}};
        for (int[] d : due) {
            CHECK.due("odds(" + d[0] + ", " + d[1] + ")", x, x.odds(d[0], d[1]), d[2], 0);
        }
    }

    private static void greatest() {
        CHECK.says("the greatest, the first such.");
        TwoMinds x = Check.house(SMITHS);
        int[][] due = {{0, 0}, {1, 1}, {2, 2}, {3, 0}, {128, 2}, {255, 2}, {4, 0}, {131, 2}, {126, 2}};
        for (int[] d : due) {
            CHECK.due("whose(" + d[0] + ")", x, x.whose(d[0]), d[1], 0);
        }
        TwoMinds last = Check.house(WHOLE + ";smith a 1;smith b 1;smith c 1;smith d 1;smith e 2");
        CHECK.due("whose(1) of the last", last, last.whose(1), 4, 0);
        CHECK.due("whose(2) of like ones", last, last.whose(2), 0, 0);
    }

    private static void allSmiths() {
        CHECK.says("The product of a smith (of all smiths: NONE).");
        TwoMinds x = Check.house(SMITHS);
        CHECK.due("odds(-1, 0)", x, x.odds(-1, 0), 5, 0);
        CHECK.due("odds(-1, 1)", x, x.odds(-1, 1), 2 + 6 + 1 + 1 + 1, 0);
        CHECK.due("odds(-1, 255)", x, x.odds(-1, 255), 6 + 6 + 54 + 54 + 1, 0);
        CHECK.due("odds(4, 255)", x, x.odds(4, 255), 1, 0);
        CHECK.due("odds(5, 255)", x, x.odds(5, 255), Long.MIN_VALUE, 1);
        CHECK.due("odds(-2, 255)", x, x.odds(-2, 255), Long.MIN_VALUE, 1);
        StringBuilder text = new StringBuilder(WHOLE);
        for (char c = 'a'; c <= 'e'; c++) {
            text.append(";smith s").append(c).append(" 9,9,9,9,9,9,9,9");
        }
        TwoMinds most = Check.house(text.toString());
        CHECK.due("the most there can be", most, most.odds(-1, 255), 5L * 43046721, 0);
    }

    private static void noSmiths() {
        CHECK.says("WHOSE: the smith. NONE: 1 (no smith); 2 (SIGNS as bits).");
        TwoMinds x = Check.house(WHOLE);
        CHECK.due("whose(0) without smiths", x, x.whose(0), -1, 1);
        CHECK.due("whose(256) without smiths", x, x.whose(256), -1, 1);
        CHECK.due("odds(0, 0) without smiths", x, x.odds(0, 0), Long.MIN_VALUE, 1);
        CHECK.due("odds(-1, 0) without smiths", x, x.odds(-1, 0), 0, 0);
        TwoMinds one = Check.house(WHOLE + ";smith a 9");
        CHECK.due("whose(0) of one smith", one, one.whose(0), 0, 0);
        CHECK.due("whose(255) of one smith", one, one.whose(255), 0, 0);
        CHECK.due("whose(256) of one smith", one, one.whose(256), -1, 2);
        CHECK.due("odds(1, 0) of one smith", one, one.odds(1, 0), Long.MIN_VALUE, 1);
    }

    // ---- learning

    private static void blades() {
        CHECK.says("LEARNED: blades told by HEAT, water, CLAY (0 .. 3) and how it went (0 cracked, 1 soft, 2 good): up to"
            + " 20.");
        CHECK.says("A blade is LEARNED: how many there are.");
        TwoMinds x = Check.house(WHOLE);
        int[][] ends = {{0, 0, 0, 0}, {999, 999, 3, 2}, {0, 999, 0, 1}, {999, 0, 3, 0}};
        for (int k = 0; k < 20; k++) {
            int[] e = ends[k % 4];
            CHECK.due("blade " + k, x, x.learn(e[0], e[1], e[2], e[3]), k + 1, 0);
            CHECK.due("size(10)", x.size(10), k + 1);
        }
        CHECK.due("the 21st blade", x, x.learn(0, 0, 0, 0), -1, 3);
        CHECK.due("the 22nd blade", x, x.learn(999, 999, 3, 2), -1, 3);
        CHECK.due("size(10)", x.size(10), 20);
        CHECK.due("a number that is wrong, too", x, x.learn(1000, 0, 0, 0), -1, 2);
        Check.book(x, WHOLE);
        CHECK.due("the first of a new book", x, x.learn(0, 0, 0, 0), 1, 0);
        CHECK.due("next of it", x, x.next(), -2, 0);
    }

    /** NEXT of blades told one behind the other as heat, water, clay, how. */
    private static void next(String what, int due, int... blades) {
        TwoMinds x = Check.house(WHOLE);
        for (int k = 0; k + 3 < blades.length; k += 4) {
            x.learn(blades[k], blades[k + 1], blades[k + 2], blades[k + 3]);
        }
        CHECK.due("next of " + what, x, x.next(), due, 0);
        TwoMinds backwards = Check.house(WHOLE);
        for (int k = blades.length - 4; k >= 0; k -= 4) {
            backwards.learn(blades[k], blades[k + 1], blades[k + 2], blades[k + 3]);
        }
        CHECK.due("next of " + what + ", told backwards", backwards, backwards.next(), due, 0);
    }

    private static void ways() {
        CHECK.says("NEXT: of 6 ways (HEAT, water, CLAY more: 0, 1, 2; less: 3, 4, 5)");
        next("nothing", -2);
        next("one", -2, 5, 5, 1, 2);
        next("more heat", 0, 998, 5, 1, 0, 999, 5, 1, 1);
        next("more water", 1, 5, 998, 1, 0, 5, 999, 1, 1);
        next("more clay", 2, 5, 5, 2, 0, 5, 5, 3, 1);
        next("less heat", 3, 1, 5, 1, 0, 0, 5, 1, 1);
        next("less water", 4, 5, 1, 1, 0, 5, 0, 1, 1);
        next("less clay", 5, 5, 5, 1, 0, 5, 5, 0, 1);
        next("all the heat there is", 0, 0, 5, 1, 1, 999, 5, 1, 2);
        next("good ahead of cracked", 3, 0, 5, 1, 2, 999, 5, 1, 0);
    }

    private static void inThatAlone() {
        CHECK.says("the second of which differs from the first in that alone, that way");
        next("two alike", -2, 5, 5, 1, 0, 5, 5, 1, 2);
        next("heat and water", -2, 5, 5, 1, 0, 6, 6, 1, 2);
        next("heat and clay", -2, 5, 5, 1, 0, 6, 5, 2, 2);
        next("water and clay", -2, 5, 5, 1, 0, 5, 6, 2, 2);
        next("all three", -2, 5, 5, 1, 0, 6, 6, 2, 2);
        next("all three, against one another", -2, 5, 5, 1, 0, 6, 4, 0, 2);
    }

    private static void betterLessWorse() {
        CHECK.says("the one with the greatest number of pairs of blades");
        CHECK.says("and went better, less those in which it went worse");
        next("as well", -2, 5, 5, 1, 1, 6, 5, 1, 1);
        next("once better, once worse", -2, 5, 5, 1, 0, 6, 5, 1, 1, 5, 9, 1, 1, 6, 9, 1, 0);
        next("twice better, once worse", 0, 5, 5, 1, 0, 6, 5, 1, 1, 5, 9, 1, 1, 6, 9, 1, 0, 5, 20, 2, 1, 6, 20, 2, 2);
        // By how much it went better is nothing to it.
        next("once much better, once worse", -2, 5, 5, 1, 0, 6, 5, 1, 2, 5, 9, 1, 1, 6, 9, 1, 0);
        // Of three in a row each is a pair with each: 0 to 1, 1 to 2, 0 to 2.
        next("three in a row against two pairs of water", 0, 1, 5, 1, 0, 2, 5, 1, 1, 3, 5, 1, 2, 70, 10, 3, 0, 70, 20, 3, 1,
            80, 10, 2, 0, 80, 20, 2, 1);
    }

    private static void firstAndAboveNought() {
        CHECK.says("the first such, if above 0.");
        next("heat and water alike", 0, 5, 5, 1, 0, 6, 5, 1, 1, 5, 6, 1, 1);
        next("water and clay alike", 1, 5, 5, 1, 0, 5, 5, 2, 1, 5, 6, 1, 1);
        next("clay and less heat alike", 2, 5, 5, 1, 0, 5, 5, 2, 1, 4, 5, 1, 1);
        next("less heat and less water alike", 3, 5, 5, 1, 0, 5, 4, 1, 1, 4, 5, 1, 1);
        next("less water and less clay alike", 4, 5, 5, 1, 0, 5, 5, 0, 1, 5, 4, 1, 1);
        next("none above 0", -2, 5, 5, 1, 1, 6, 5, 1, 1, 5, 6, 1, 1);
        next("a later one that is greater", 2, 5, 5, 1, 0, 5, 6, 1, 1, 5, 5, 2, 1, 5, 5, 3, 2);
    }

    private static void mostBlades() {
        CHECK.says("how it went (0 cracked, 1 soft, 2 good): up to 20.");
        TwoMinds x = Check.house(WHOLE);
        for (int k = 0; k < 18; k++) {
            x.learn(100 + k, 50 + k, 1, 1);
        }
        x.learn(700, 7, 1, 0);
        CHECK.due("next of 19", x, x.next(), -2, 0);
        x.learn(700, 7, 2, 1);
        CHECK.due("the 20th counts", x, x.next(), 2, 0);
        x.learn(700, 7, 0, 2);
        CHECK.due("the 21st doesn't", x, x.next(), 2, 0);
        CHECK.due("the first counts", nextOfFirst(), 5);
    }

    private static void nextAgain() {
        CHECK.says("NEXT; -2 if there is none.");
        TwoMinds x = Check.house(WHOLE);
        CHECK.due("next of nothing", x, x.next(), -2, 0);
        x.learn(5, 5, 1, 0);
        CHECK.due("next of one", x, x.next(), -2, 0);
        x.learn(6, 5, 1, 1);
        for (int k = 0; k < 9; k++) {
            CHECK.due("next, asked again", x, x.next(), 0, 0);
        }
        x.learn(50, 10, 1, 0);
        x.learn(50, 20, 1, 1);
        x.learn(60, 10, 2, 0);
        x.learn(60, 20, 2, 1);
        CHECK.due("next of what is there now", x, x.next(), 1, 0);
        x.learn(70, 10, 3, 1);
        x.learn(70, 20, 3, 0);
        x.learn(80, 10, 0, 1);
        x.learn(80, 20, 0, 0);
        CHECK.due("next of heat, as water is none now", x, x.next(), 0, 0);
    }

    private static int nextOfFirst() {
        TwoMinds x = Check.house(WHOLE);
        x.learn(1, 1, 1, 0);
        for (int k = 0; k < 18; k++) {
            x.learn(100 + k, 50 + k, 1, 1);
        }
        x.learn(1, 1, 0, 1);
        return x.next();
    }

    // ---- size, trouble

    private static void sizes() {
        CHECK.says("0 long, 1 wide, 2 KINDS, 3 turns, 4 reds, 5 stones, 6 smiths, 7 TENTH, 8 whether it CRACKED (1), 9 how"
            + " many CELLS have turned, 10 blades LEARNED, 11 bytes of THE TAPE, 12 WHOLE PULL.");
        int[] cracked = {2, 3, 2, 1, 1, 1, 1, 3, 1, 4, 3, 0, 24};
        TwoMinds x = Scene.CRACKED.make();
        for (int what = 0; what <= 12; what++) {
            CHECK.due("size(" + what + ") of a cracked bar", x.size(what), cracked[what]);
        }
        int[] full = {2, 2, 3, 2, 2, 2, 2, 400, 0, 4, 20, 700, 4};
        TwoMinds y = Scene.FULL.make();
        for (int what = 0; what <= 12; what++) {
            CHECK.due("size(" + what + ") of a full house", y.size(what), full[what]);
        }
        CHECK.says("NONE for others; 0 for what there isn't.");
        for (int what : new int[] {-1, 13, -2, 14, Integer.MIN_VALUE, Integer.MAX_VALUE}) {
            CHECK.due("size(" + what + ")", x.size(what), -1);
            CHECK.due("size(" + what + ") of a new house", new TwoMinds().size(what), -1);
        }
    }

    private static void sizesOfNothing() {
        CHECK.says("NONE for others; 0 for what there isn't.");
        TwoMinds x = new TwoMinds();
        for (int what = 0; what <= 12; what++) {
            CHECK.due("size(" + what + ") of a new house", x.size(what), 0);
        }
        TwoMinds fed = Scene.FED.make();
        for (int what = 0; what <= 12; what++) {
            CHECK.yes("size(" + what + ") of a fed house", fed.size(what) == 0 == (what != 11));
        }
        Check.book(fed, "bar");
        for (int what = 0; what <= 12; what++) {
            CHECK.due("size(" + what + ") behind a faulty book", fed.size(what), 0);
        }
        TwoMinds least = Check.house(WHOLE);
        for (int what = 3; what <= 11; what++) {
            CHECK.due("size(" + what + ") of a small book", least.size(what), 0);
        }
    }

    private static void troubles() {
        CHECK.says("0 it wasn't; 1 there is none such; 2 a number; 3 no room; 4 a FAULT; 5 not so; 6 there is none.");
        TwoMinds x = new TwoMinds();
        CHECK.due("of a new object", x.trouble(), 0);
        x.cold();
        CHECK.due("none such", x.trouble(), 1);
        x.book(1);
        CHECK.due("a number", x.trouble(), 2);
        x.book(0);
        CHECK.due("a fault", x.trouble(), 4);
        Check.book(x, WHOLE);
        CHECK.due("it wasn't", x.trouble(), 0);
        x.why(0);
        CHECK.due("not so", x.trouble(), 5);
        x.polish(1);
        CHECK.due("there is none", x.trouble(), 6);
        for (int k = 0; k <= 20; k++) {
            x.learn(1, 1, 1, 1);
        }
        CHECK.due("no room", x.trouble(), 3);
        CHECK.says("TROUBLE of the latest call that may be refused (those of which a number is told here)");
        x.fault();
        x.where();
        x.feed(0, 0, 0, 0, 0);
        x.cell(9, 9, 9);
        x.cell(0, 0, 0);
        x.layer(0);
        x.layer(9);
        x.size(0);
        x.size(99);
        CHECK.noneLed(x, 0);
        x.trouble();
        CHECK.due("behind calls of which no number is told", x.trouble(), 3);
        allowed(x);
    }

    /** Every call of which a number is told makes it 0 if it isn't refused. */
    private static void allowed(TwoMinds old) {
        old.book(0);
        Check.book(old, Scene.SMALL);
        CHECK.due("book", old.trouble(), 0);
        String[] names = {"heat", "clay", "go", "again", "pull", "curve", "bend", "crack", "cold", "cloud", "chip", "aim",
            "scatter", "lowers", "why", "lay", "fold", "even", "colour", "eye", "polish", "stones", "whose", "odds", "learn",
            "next"};
        for (int k = 0; k < names.length; k++) {
            TwoMinds x = names[k].equals("why") ? Scene.CRACKED.make() : Check.house(Scene.SMALL);
            x.book(-1);
            call(x, k);
            CHECK.due("trouble() behind " + names[k], x.trouble(), 0);
        }
    }

    private static long call(TwoMinds x, int k) {
        switch (k) {
            case 0: return x.heat(0) ? 1 : 0;
            case 1: return x.clay(0, 0, 0) ? 1 : 0;
            case 2: return x.go(1);
            case 3: return x.again(0) ? 1 : 0;
            case 4: return x.pull(0, 0);
            case 5: return x.curve(0);
            case 6: return x.bend(0);
            case 7: return x.crack(0);
            case 8: return x.cold();
            case 9: return x.cloud(0, 0);
            case 10: return x.chip(0, 0);
            case 11: return x.aim(0, 2, 0);
            case 12: return x.scatter(0, 0, 0);
            case 13: return x.lowers(0, 0, 0);
            case 14: return x.why(900);
            case 15: return x.lay(0, 0) ? 1 : 0;
            case 16: return x.fold(1);
            case 17: return x.even(0);
            case 18: return x.colour(0, 0);
            case 19: return x.eye(0, 0, 0, 0, 0);
            case 20: return x.polish(0);
            case 21: return x.stones(0);
            case 22: return x.whose(0);
            case 23: return x.odds(0, 0);
            case 24: return x.learn(0, 0, 0, 0);
            default: return x.next();
        }
    }
}

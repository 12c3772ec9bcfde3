/** The boundary cases of promises 18 to 21 and 27 and of trials (Terms III), sentence by sentence. */
public final class TrialEdgeTest {
    private static final Check CHECK = new Check("TrialEdgeTest");
    /** Heats 867 to 874 crack in tenth 60, heats 875 to 882 in tenth 61. */
    private static final String CRACKS_LATE = text("water 0 pulls 2 shield 10 flow 0 swell 5", 900, 30, 9, 0)
        + ";red r 874 to 875";
    /** The edge turns in tenth 60 from heats 867 to 874, in tenth 61 from 875 to 882; nothing cracks. */
    private static final String TURNS_LATE = text("water 0 pulls 1 shield 10 flow 0 swell 0", 999, 30, 999, 0)
        + ";red r 874 to 875";
    /** Nothing turns; raw bears so little that it cracks of heat 99, by water of 0, but not of heat 0. */
    private static final String TENDER = text("water 0 pulls 50 shield 50 flow 0 swell 50", 1, 0, 1, 400);

    public static void main(String[] args) {
        oneCutAlone();
        cracksInSixtyTenths();
        turnsInSixtyTenths();
        justSoWide();
        noCellBehindHard();
        leastClay();
        mostClay();
        aimsInNoBarsClay();
        scatterBounds();
        scatterOfNine();
        lowersKeptInBounds();
        lowersClayKeptInBounds();
        lowersFirst();
        whyBits();
        eyeCounts();
        eyeAtTheEnds();
        CHECK.end();
    }

    private static String text(String water, int bearsRaw, int room, int bears, int drop) {
        return "bar long 1 wide 3;" + water + ";kind raw hard 0 room 0 bears " + bearsRaw
            + ";kind glass hard 90 room " + room + " bears " + bears + ";turn glass below 500 drop " + drop;
    }

    /** A bar of one cut, put into water for 60 tenths: what a trial of it comes to. */
    private static TwoMinds tried(String text, int heat, int... clays) {
        TwoMinds x = Check.house(text);
        x.heat(heat);
        for (int j = 0; j < clays.length; j++) {
            x.clay(0, j, clays[j]);
        }
        x.go(60);
        return x;
    }

    private static void oneCutAlone() {
        CHECK.says("A TRIAL: one CUT alone (no neighbours along), HEATED to a told HEAT, clayed, for 60 TENTHS.");
        String one = text("water 20 pulls 40 shield 30 flow 12 swell 20", 6, 25, 9, 60) + ";red r 600 to 699";
        TwoMinds alone = Check.house(one);
        TwoMinds last = Check.house(one.replace("long 1", "long 8"));
        for (int i = 1; i < 8; i++) {
            for (int j = 0; j < 3; j++) {
                last.clay(i, j, 3);
            }
        }
        boolean some = false;
        for (int heat = 450; heat < 999; heat += 25) {
            int cracks = alone.scatter(heat, 20, 20);
            some |= cracks > 0 && cracks < 9;
            CHECK.due("scatter(" + heat + ")", last, last.scatter(heat, 20, 20), cracks, 0);
            CHECK.due("why(" + heat + ")", last.why(heat), alone.why(heat));
            CHECK.due("aim(" + heat + ")", last.aim(heat, 1, 90), alone.aim(heat, 1, 90));
            CHECK.due("crack of a bar of one cut", alone.why(heat) >= 0 ? 1 : 0, tried(one, heat).size(8));
        }
        CHECK.yes("some crack and some don't", some);
        CHECK.due("eye", last, last.eye(0, 0, 1, 0, 0), alone.eye(0, 0, 1, 0, 0), 0);
        TwoMinds bar = Check.house(one.replace("long 1", "long 8"));
        bar.heat(900);
        bar.go(30);
        CHECK.due("a trial doesn't start from the bar's tenth", bar.scatter(700, 20, 20), alone.scatter(700, 20, 20));
    }

    private static void cracksInSixtyTenths() {
        CHECK.says("clayed, for 60 TENTHS.");
        TwoMinds x = Check.house(CRACKS_LATE);
        int[][] due = {{859, 59}, {866, 59}, {867, 60}, {874, 60}, {875, 61}, {882, 61}};
        for (int[] d : due) {
            TwoMinds bar = tried(CRACKS_LATE, d[0]);
            bar.go(1);
            CHECK.due("the tenth in which heat " + d[0] + " cracks", bar, bar.crack(0), d[1], 0);
            boolean cracks = d[1] <= 60;
            CHECK.due("scatter(" + d[0] + ", 0, 0)", x, x.scatter(d[0], 0, 0), cracks ? 9 : 0, 0);
            CHECK.due("whether why(" + d[0] + ") is told", x.why(d[0]) == -1 ? x.trouble() : 0, cracks ? 0 : 5);
            CHECK.due("aim(" + d[0] + ", 3, 0) needs clay", x.aim(d[0], 3, 0) == 0 ? 0 : 1, cracks ? 1 : 0);
        }
        CHECK.due("how many of 874 and 875 crack", x, x.eye(0, 0, 1, 0, 0), 1, 0);
        CHECK.due("how many don't", x, x.eye(0, 0, 2, 3, 0), 1, 0);
    }

    private static void turnsInSixtyTenths() {
        CHECK.says("clayed, for 60 TENTHS.");
        TwoMinds x = Check.house(TURNS_LATE);
        for (int heat : new int[] {867, 874, 875, 882}) {
            TwoMinds bar = tried(TURNS_LATE, heat);
            int cloud = heat <= 874 ? 1 : 0;
            CHECK.due("cloud of a bar of heat " + heat, bar, bar.cloud(0, 90), cloud, 0);
            CHECK.due("aim(" + heat + ", 1, 90)", x, x.aim(heat, 1, 90), cloud == 1 ? 0 : -1, cloud == 1 ? 0 : 6);
        }
        CHECK.due("how many of 874 and 875 have a cloud", x, x.eye(0, 0, 2, 1, 90), 1, 0);
        CHECK.due("how many have none", x, x.eye(0, 0, 2, 0, 90), 1, 0);
    }

    // ---- aim

    private static int clayOf(int way, int j) {
        return way >> 2 * j & 3;
    }

    /** Aimed by the words: every clay is tried in a bar of one cut. */
    private static int aimed(String text, int wide, int heat, int width, int hard) {
        int best = -1;
        int least = 99;
        String bestKey = "";
        for (int way = 0; way < 1 << 2 * wide; way++) {
            int[] clays = new int[wide];
            int total = 0;
            int tens = 0;
            StringBuilder key = new StringBuilder();
            for (int j = wide - 1; j >= 0; j--) {
                clays[j] = clayOf(way, j);
                total += clays[j];
                tens = 10 * tens + clays[j];
                key.insert(0, clays[j]);
            }
            boolean better = total < least || total == least && key.toString().compareTo(bestKey) < 0;
            if (better && fits(tried(text, heat, clays), wide, width, hard)) {
                best = tens;
                least = total;
                bestKey = key.toString();
            }
        }
        return best;
    }

    private static boolean fits(TwoMinds bar, int wide, int width, int hard) {
        boolean fits = bar.size(8) == 0 && bar.cloud(0, hard) == width;
        for (int j = width; j < wide; j++) {
            fits &= hard > (bar.cell(0, j, 1) == 0 ? 0 : 90);
        }
        return fits;
    }

    private static void aims(String text, int wide, int heat, int width, int hard, int due) {
        String wider = text.replace("wide 3", "wide " + wide);
        String what = "aim(" + heat + ", " + width + ", " + hard + ") of " + wider;
        TwoMinds x = Check.house(wider);
        CHECK.due(what, x, x.aim(heat, width, hard), due, due == -1 ? 6 : 0);
        CHECK.due(what + ", by trying all", aimed(wider, wide, heat, width, hard), due);
    }

    private static void justSoWide() {
        CHECK.says("those that don't CRACK and have CLOUD just so wide");
        String text = text("water 0 pulls 50 shield 50 flow 0 swell 0", 999, 30, 999, 100);
        // The edge and the cell behind it turn by 100 and more; clay 1 keeps the second, clay 2 the edge from it.
        aims(text, 3, 900, 0, 90, 12);
        aims(text, 3, 900, 1, 90, 10);
        aims(text, 3, 900, 2, 90, 0);
        aims(text, 3, 900, 3, 90, -1);
        aims(text, 3, 900, 3, 0, 0);
        aims(text, 3, 900, 0, 91, 0);
        aims(text, 3, 900, 1, 91, -1);
        aims(text, 3, 0, 0, 99, 0);
        aims(text, 3, 999, 3, 0, 0);
        String brittle = text("water 0 pulls 50 shield 50 flow 0 swell 0", 999, 30, 9, 100);
        aims(brittle, 3, 900, 2, 90, -1);
        aims(brittle, 3, 900, 1, 90, 10);
        aims(brittle, 2, 900, 2, 90, 0);
        aims(brittle, 2, 900, 0, 90, 12);
    }

    private static void noCellBehindHard() {
        CHECK.says("no CELL behind it HARD");
        String text = text("water 0 pulls 50 shield 50 flow 0 swell 0", 999, 30, 999, 0);
        aims(text, 3, 900, 0, 90, 222);
        aims(text, 3, 900, 1, 90, 220);
        aims(text, 3, 900, 2, 90, 200);
        aims(text, 3, 900, 3, 90, 0);
        aims(text, 3, 900, 2, 0, -1);
    }

    private static void leastClay() {
        CHECK.says("of these the least CLAY in all, of like ones the least from the edge on.");
        aims(text("water 20 pulls 10 shield 40 flow 12 swell 20", 2, 8, 6, 100), 3, 650, 3, 0, 100);
        aims(text("water 0 pulls 40 shield 40 flow 12 swell 40", 14, 16, 12, 110), 3, 600, 3, 0, 100);
        aims(text("water 60 pulls 40 shield 60 flow 12 swell 10", 11, 17, 2, 20), 3, 800, 3, 0, 212);
        aims(text("water 40 pulls 30 shield 50 flow 12 swell 10", 27, 9, 6, 80), 4, 800, 4, 0, 1000);
        aims(text("water 20 pulls 40 shield 10 flow 6 swell 20", 16, 39, 15, 20), 4, 900, 4, 0, 3002);
        aims(text("water 80 pulls 30 shield 40 flow 12 swell 50", 30, 34, 30, 30), 4, 650, 3, 90, 2000);
        aims(text("water 20 pulls 50 shield 60 flow 12 swell 0", 1, 9, 2, 80), 4, 900, 4, 0, 21);
        // Clay 0, 0, 2 has less at the edge, but more in all, than 1, 0, 0.
        aims(text("water 40 pulls 30 shield 10 flow 0 swell 20", 23, 42, 19, 20), 3, 650, 3, 0, 1);
        aims(text("water 20 pulls 20 shield 60 flow 12 swell 10", 11, 28, 3, 30), 3, 800, 3, 0, 21);
        aims(text("water 60 pulls 50 shield 40 flow 6 swell 40", 24, 6, 22, 90), 3, 700, 1, 90, 11);
        aims(text("water 80 pulls 50 shield 40 flow 0 swell 10", 22, 42, 11, 0), 3, 850, 3, 0, 101);
    }

    private static void mostClay() {
        CHECK.says("of TRIALS with CLAY by j (0 .. 3 each)");
        // Clay 2 lets every cell fall past 500 by 33 at least, clay 3 by 26 at most.
        aims(text("water 0 pulls 50 shield 30 flow 0 swell 0", 999, 30, 999, 33), 3, 900, 0, 90, 333);
        aims(text("water 0 pulls 50 shield 33 flow 0 swell 0", 999, 30, 999, 0), 3, 900, 0, 90, 333);
        aims(text("water 0 pulls 50 shield 30 flow 0 swell 0", 999, 30, 999, 0), 3, 900, 0, 90, -1);
        aims(text("water 0 pulls 50 shield 34 flow 0 swell 0", 999, 30, 999, 0), 3, 900, 0, 90, 333);
        aims(text("water 0 pulls 50 shield 49 flow 0 swell 0", 999, 30, 999, 10), 3, 900, 0, 90, 222);
        aims(text("water 0 pulls 50 shield 0 flow 0 swell 0", 999, 30, 999, 0), 3, 900, 0, 90, -1);
        TwoMinds five = Check.house(text("water 0 pulls 50 shield 50 flow 0 swell 0", 999, 30, 999, 0)
            .replace("wide 3", "wide 5"));
        CHECK.due("aim of five across", five, five.aim(900, 0, 90), 22222, 0);
        CHECK.due("aim of five across, a whole cloud", five, five.aim(900, 5, 90), 0, 0);
        CHECK.due("aim of five across, but for the back", five, five.aim(900, 4, 90), 20000, 0);
    }

    private static void aimsInNoBarsClay() {
        CHECK.says("CLAY of j times 10 to the j, together.");
        TwoMinds x = Check.house(text("water 0 pulls 50 shield 50 flow 0 swell 0", 999, 30, 999, 100));
        x.clay(0, 0, 3);
        x.clay(0, 1, 3);
        CHECK.due("aim in spite of the bar's clay", x, x.aim(900, 1, 90), 10, 0);
        CHECK.due("the bar's clay stays", x.cell(0, 0, 2), 3);
        CHECK.due("scatter by the bar's clay behind aim", x, x.scatter(900, 0, 0), 0, 0);
    }

    // ---- scatter, lowers, why

    private static void scatterBounds() {
        CHECK.says("HEAT less, as, more by a told number, water likewise (0 .. 999 each)");
        TwoMinds x = Check.house(TENDER);
        // Less than 0 is 0: no heat moves in water of 0, of heat 99 all crack.
        CHECK.due("scatter(0, 99, 0)", x, x.scatter(0, 99, 0), 3, 0);
        // Water of -99 would be 0; water of 99 cracks what is of heat 0.
        CHECK.due("scatter(0, 0, 99)", x, x.scatter(0, 0, 99), 3, 0);
        CHECK.due("scatter(0, 0, 0)", x, x.scatter(0, 0, 0), 0, 0);
        // In water of 31 heat 0 doesn't crack and heat 1 does.
        TwoMinds mild = Check.house(TENDER.replace("water 0", "water 31"));
        CHECK.due("scatter(0, 0, 0) in water of 31", mild, mild.scatter(0, 0, 0), 0, 0);
        CHECK.due("scatter(1, 0, 0) in water of 31", mild, mild.scatter(1, 0, 0), 9, 0);
        CHECK.due("scatter(1, 1, 0) in water of 31", mild, mild.scatter(1, 1, 0), 3 + 3 * bar(TENDER, 31, 2), 0);
        CHECK.due("scatter(1, 9, 0) in water of 31", mild, mild.scatter(1, 9, 0), 3 + 3 * bar(TENDER, 31, 10), 0);
        // Heat 999 falls by 99 to 900, then by 90; more heat would fall past 900 by 95 and more.
        TwoMinds hot = Check.house(text("water 0 pulls 10 shield 0 flow 0 swell 0", 9, 30, 9, 95)
            .replace("below 500", "below 900"));
        CHECK.due("scatter(999, 99, 0)", hot, hot.scatter(999, 99, 0), 0, 0);
        CHECK.due("scatter(900, 99, 0)", hot, hot.scatter(900, 99, 0), 0, 0);
        // From heat 500 the middle cell turns, and cracks, if it falls by 100: in water of 99, not of 100.
        TwoMinds warm = Check.house(text("water 99 pulls 50 shield 50 flow 0 swell 0", 999, 30, 9, 100));
        CHECK.due("scatter(500, 0, 0) in warm water", warm, warm.scatter(500, 0, 0), 9, 0);
        CHECK.due("scatter(500, 0, 2) in warm water", warm, warm.scatter(500, 0, 2), 6, 0);
        CHECK.due("scatter(500, 0, 99) in warm water", warm, warm.scatter(500, 0, 99), 6, 0);
    }

    private static int bar(String text, int water, int heat) {
        return tried(text.replace("water 0", "water " + water), heat).size(8);
    }

    private static void scatterOfNine() {
        CHECK.says("SCATTER: nine TRIALS (clayed as the CUT 0 of the bar)");
        String text = text("water 50 pulls 50 shield 30 flow 12 swell 20", 6, 25, 9, 60);
        int[][] asked = {{700, 99, 49}, {600, 40, 40}, {0, 99, 49}, {999, 99, 49}, {560, 1, 1}, {520, 17, 31}};
        boolean some = false;
        for (int clay = 0; clay <= 3; clay++) {
            TwoMinds x = Check.house(text);
            x.clay(0, 1, clay);
            for (int[] a : asked) {
                int cracks = 0;
                for (int k = 0; k < 9; k++) {
                    int heat = Math.max(0, Math.min(999, a[0] + (k / 3 - 1) * a[1]));
                    int water = 50 + (k % 3 - 1) * a[2];
                    cracks += tried(text.replace("water 50", "water " + water), heat, 0, clay).size(8);
                }
                some |= cracks > 0 && cracks < 9;
                CHECK.due("scatter(" + a[0] + ", " + a[1] + ", " + a[2] + ") by clay " + clay, x,
                    x.scatter(a[0], a[1], a[2]), cracks, 0);
            }
        }
        CHECK.yes("some crack and some don't", some);
    }

    private static TwoMinds clayed(String text, String clays) {
        TwoMinds x = Check.house(text);
        for (int j = 0; j < clays.length(); j++) {
            x.clay(0, j, clays.charAt(j) - '0');
        }
        return x;
    }

    private static void lowersKeptInBounds() {
        CHECK.says("each kept in its bounds ahead of SCATTER");
        // Clayed so, heat 6 cracks in water of 0 and heat 5 doesn't.
        TwoMinds x = clayed(TENDER, "020");
        CHECK.due("scatter(5, 0, 0)", x, x.scatter(5, 0, 0), 0, 0);
        CHECK.due("scatter(6, 0, 0)", x, x.scatter(6, 0, 0), 9, 0);
        // About 1 by 5 three crack (of heat 6); 20 less is kept at 0, and of 0, 0 and 5 none does.
        CHECK.due("lowers(1, 5, 0)", x, x.lowers(1, 5, 0), 0, 0);
        // About 1 by 6 three crack; of 0, 0 and 6 three do as well, though of -25, -19 and -13 none would.
        CHECK.due("lowers(1, 6, 0)", x, x.lowers(1, 6, 0), 2, 0);
        CHECK.due("lowers(0, 5, 0)", x, x.lowers(0, 5, 0), -2, 0);
        CHECK.due("lowers(0, 6, 0)", x, x.lowers(0, 6, 0), 2, 0);
        CHECK.says("LOWERS: of 0 HEAT 20 less, 1 water 20 warmer");
        CHECK.due("20 less is 5", x, x.lowers(25, 0, 0), 0, 0);
        CHECK.due("20 less is 6", x, x.lowers(26, 0, 0), -2, 0);
        // Water of 99 and 20 is 119: it isn't kept in the 0 .. 99 of a text.
        TwoMinds warm = clayed(text("water 99 pulls 20 shield 20 flow 0 swell 20", 1, 50, 25, 140), "333");
        CHECK.due("why(3) in water of 99", warm, warm.why(3), 2, 0);
    }

    private static void lowersClayKeptInBounds() {
        CHECK.says("2 CLAY 1 more everywhere (3 at most), 3 CLAY 1 less (0 at least)");
        String slow = text("water 77 pulls 10 shield 30 flow 0 swell 20", 3, 30, 20, 100);
        TwoMinds thick = clayed(slow, "333");
        CHECK.due("why(750), no clay 4", thick, thick.why(750), 0, 0);
        CHECK.due("lowers(750, 0, 0), no clay 4", thick, thick.lowers(750, 0, 0), -2, 0);
        TwoMinds uneven = clayed(text("water 44 pulls 20 shield 30 flow 0 swell 10", 3, 0, 1, 90), "321");
        CHECK.due("why(450) by 333 or 210", uneven, uneven.why(450), 11, 0);
        CHECK.due("lowers(450, 40, 66)", uneven, uneven.lowers(450, 40, 66), 3, 0);
        TwoMinds thin = clayed(text("water 22 pulls 30 shield 10 flow 0 swell 10", 3, 50, 12, 60), "021");
        CHECK.due("why(400) by 010", thin, thin.why(400), 8, 0);
        CHECK.due("lowers(400, 40, 0)", thin, thin.lowers(400, 40, 0), 3, 0);
        TwoMinds bare = clayed(text("water 22 pulls 30 shield 40 flow 0 swell 20", 28, 20, 6, 20), "200");
        CHECK.due("why(750) by 100", bare, bare.why(750), 8, 0);
        CHECK.due("lowers(750, 50, 0)", bare, bare.lowers(750, 50, 0), 3, 0);
        CHECK.due("its clay stays", bare.cell(0, 0, 2), 2);
    }

    /** How many of nine crack if one thing is changed, told by a house of its own. */
    private static int changed(String text, String clays, int change, int heat, int byHeat, int byWater) {
        int water = Integer.parseInt(text.substring(text.indexOf("water ") + 6, text.indexOf(" pulls")));
        StringBuilder other = new StringBuilder();
        for (char c : clays.toCharArray()) {
            int clay = c - '0' + (change == 2 ? 1 : change == 3 ? -1 : 0);
            other.append(Math.max(0, Math.min(3, clay)));
        }
        TwoMinds x = clayed(change == 1 ? text.replace("water " + water, "water " + (water + 20)) : text,
            other.toString());
        return x.scatter(change == 0 ? Math.max(0, heat - 20) : heat, byHeat, byWater);
    }

    private static void lowersFirst() {
        CHECK.says("what makes that number least, if less than it is, the first such.");
        String[] texts = {text("water 50 pulls 50 shield 30 flow 12 swell 20", 6, 25, 9, 60),
            text("water 30 pulls 50 shield 10 flow 0 swell 30", 24, 40, 24, 80),
            text("water 22 pulls 30 shield 40 flow 0 swell 20", 28, 20, 6, 20), TENDER};
        int[] told = new int[5];
        boolean alike = false;
        for (String text : texts) {
            for (String clays : new String[] {"000", "210", "333", "021"}) {
                for (int heat = 0; heat <= 999; heat += 37) {
                    int as = changed(text, clays, -1, heat, 30, 25);
                    int best = -2;
                    int least = as;
                    for (int change = 0; change < 4; change++) {
                        int cracks = changed(text, clays, change, heat, 30, 25);
                        alike |= best >= 0 && cracks == least;
                        if (cracks < least) {
                            least = cracks;
                            best = change;
                        }
                    }
                    told[best < 0 ? 4 : best]++;
                    TwoMinds x = clayed(text, clays);
                    CHECK.due("lowers(" + heat + ", 30, 25) by " + clays + " of " + text, x, x.lowers(heat, 30, 25), best,
                        0);
                }
            }
        }
        for (int k = 0; k < told.length; k++) {
            CHECK.yes("answer " + k + " comes about", told[k] > 0);
        }
        CHECK.yes("like ones come about", alike);
    }

    private static void whyBits() {
        CHECK.says("WHY a TRIAL by a HEAT (clayed as CUT 0) CRACKS, as bits.");
        CHECK.says("WHY: of these four, as bits, those by which alone a TRIAL that CRACKS doesn't.");
        TwoMinds x = clayed(TENDER, "020");
        CHECK.due("heat 20 less, water 20 warmer: by 5 both don't", x, x.why(25), 3, 0);
        CHECK.due("by 6 both do", x, x.why(26), 0, 0);
        CHECK.due("heat 6 is kept at 0", x, x.why(6) & 1, 1, 0);
        CHECK.due("heat 5 doesn't crack", x, x.why(5), -1, 5);
        String text = text("water 30 pulls 50 shield 10 flow 0 swell 30", 24, 40, 24, 80);
        boolean[] set = new boolean[4];
        boolean[] unset = new boolean[4];
        for (String t : new String[] {text, text("water 50 pulls 50 shield 30 flow 12 swell 20", 6, 25, 9, 60)}) {
            for (String clays : new String[] {"000", "210", "333", "021", "111"}) {
                for (int heat = 0; heat <= 999; heat += 37) {
                    TwoMinds y = clayed(t, clays);
                    int bits = 0;
                    boolean cracks = changed(t, clays, -1, heat, 0, 0) > 0;
                    for (int change = 0; change < 4 && cracks; change++) {
                        boolean saves = changed(t, clays, change, heat, 0, 0) == 0;
                        bits |= saves ? 1 << change : 0;
                        set[change] |= saves;
                        unset[change] |= !saves;
                    }
                    CHECK.due("why(" + heat + ") by " + clays + " of " + t, y, y.why(heat), cracks ? bits : -1,
                        cracks ? 0 : 5);
                }
            }
        }
        for (int k = 0; k < 4; k++) {
            CHECK.yes("bit " + k + " is set and isn't", set[k] && unset[k]);
        }
    }

    // ---- by eye

    private static void eyeCounts() {
        CHECK.says("of all HEATS (0 .. 999) that look so, how many as TRIALS (clayed as CUT 0) CRACK, how many don't and"
            + " have CLOUD of a told width.");
        CHECK.says("BY EYE: what 0 how many HEATS look so, 1 of these CRACK, 2 don't and have CLOUD of a width, HARD by so"
            + " much.");
        String text = text("water 50 pulls 50 shield 30 flow 12 swell 20", 6, 25, 9, 60) + ";red r 560 to 620"
            + ";red s 600 to 640";
        for (int light = 0; light <= 3; light += 3) {
            for (int colour = 0; colour <= 1; colour++) {
                int looks = 0;
                int cracks = 0;
                int[] clouds = new int[4];
                for (int heat = 500; heat <= 660; heat++) {
                    TwoMinds bar = tried(text, heat, 0, 1);
                    if (bar.colour(heat, light) == colour) {
                        looks++;
                        cracks += bar.size(8);
                        clouds[bar.cloud(0, 90)] += 1 - bar.size(8);
                    }
                }
                TwoMinds x = Check.house(text);
                x.clay(0, 1, 1);
                CHECK.due("how many look so", x, x.eye(colour, light, 0, 0, 90), looks, 0);
                CHECK.due("how many crack", x, x.eye(colour, light, 1, 0, 90), cracks, 0);
                for (int width = 0; width <= 3; width++) {
                    CHECK.due("how many have cloud " + width, x, x.eye(colour, light, 2, width, 90), clouds[width], 0);
                }
            }
        }
    }

    private static void eyeAtTheEnds() {
        CHECK.says("BY EYE: of all HEATS (0 .. 999) that look so");
        TwoMinds x = Check.house(TENDER + ";red a 999 to 999;red b 100 to 100;red c 100 to 999;red d 999 to 999");
        for (int light = 0; light <= 3; light++) {
            CHECK.due("eye of 999", x, x.eye(0, light, 0, 0, 0), 1, 0);
            CHECK.due("eye of 100", x, x.eye(1, light, 0, 0, 0), 1, 0);
            CHECK.due("eye of the rest", x, x.eye(2, light, 0, 0, 0), 898, 0);
            CHECK.due("eye of what looks otherwise", x, x.eye(3, light, 0, 0, 0), 0, 0);
            CHECK.due("eye of 999 that cracks", x, x.eye(0, light, 1, 0, 0), 1, 0);
            CHECK.due("eye of 999 that doesn't", x, x.eye(0, light, 2, 3, 0), 0, 0);
            CHECK.due("eye of nothing that cracks", x, x.eye(3, light, 1, 0, 0), 0, 0);
        }
        TwoMinds tough = Check.house(TENDER.replace("bears 1", "bears 999") + ";red a 999 to 999;red b 100 to 998");
        for (int light = 0; light <= 3; light++) {
            CHECK.due("eye of 999 that bears it", tough, tough.eye(0, light, 2, 3, 0), 1, 0);
            CHECK.due("eye of 999 that cracks", tough, tough.eye(0, light, 1, 3, 0), 0, 0);
            CHECK.due("eye of the rest that bears it", tough, tough.eye(1, light, 2, 3, 0), 899, 0);
        }
    }
}

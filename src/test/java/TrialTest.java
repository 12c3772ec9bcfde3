/** Promises 18 to 21 and 27: aim, scatter, lowers, why, eye. */
public final class TrialTest {
    /**
     * From a heat of 500 on the edge turns and the cell behind it does: glass, glass, raw cracks by
     * bears 9 and not by 10. Clay 1 keeps the second cell from turning, clay 2 the edge too.
     */
    private static String book(int bears) {
        return "bar long 2 wide 3;water 0 pulls 50 shield 50 flow 0 swell 0;kind raw hard 5 room 0 bears 999"
            + ";kind glass hard 90 room 30 bears " + bears + ";turn glass below 500 drop 100"
            + ";red dim 400 to 599;red hot 500 to 999";
    }

    private static final Check CHECK = new Check("TrialTest");

    public static void main(String[] args) {
        aims();
        scatters();
        lowers();
        whys();
        byEye();
        sixtyTenths();
        trialsLeaveTheBar();
        CHECK.end();
    }

    private static void aims() {
        TwoMinds x = Check.house(book(9));
        CHECK.due("aim(900, 1, 50)", x, x.aim(900, 1, 50), 10, 0);
        CHECK.due("aim(900, 0, 50)", x, x.aim(900, 0, 50), 12, 0);
        CHECK.due("aim(900, 2, 50)", x, x.aim(900, 2, 50), -1, 6);
        CHECK.due("aim(900, 3, 50)", x, x.aim(900, 3, 50), -1, 6);
        CHECK.due("aim(499, 0, 50)", x, x.aim(499, 0, 50), 0, 0);
        CHECK.due("aim(499, 3, 5)", x, x.aim(499, 3, 5), 0, 0);
        CHECK.due("aim(0, 0, 99)", x, x.aim(0, 0, 99), 0, 0);
        CHECK.due("aim(999, 3, 0)", x, x.aim(999, 3, 0), 10, 0);
        CHECK.due("aim(1000, 0, 0)", x, x.aim(1000, 0, 0), -1, 2);
        CHECK.due("aim(-1, 0, 0)", x, x.aim(-1, 0, 0), -1, 2);
        CHECK.due("aim(0, 4, 0)", x, x.aim(0, 4, 0), -1, 2);
        CHECK.due("aim(0, -1, 0)", x, x.aim(0, -1, 0), -1, 2);
        CHECK.due("aim(0, 0, 100)", x, x.aim(0, 0, 100), -1, 2);
        CHECK.due("aim(0, 0, -1)", x, x.aim(0, 0, -1), -1, 2);
        TwoMinds tougher = Check.house(book(10));
        CHECK.due("aim(900, 2, 50), tougher", tougher, tougher.aim(900, 2, 50), 0, 0);
        // Raw that is as hard as asked for lies behind the cloud: glass, raw, raw is all hard.
        CHECK.due("aim(900, 1, 5)", tougher, tougher.aim(900, 1, 5), -1, 6);
        // Without the drop every cell turns that isn't kept from it by clay 2, and the middle one
        // alone may stay raw: the cloud is 1 wide there, but the cell behind the gap is hard.
        TwoMinds gap = Check.house(book(10).replace("drop 100", "drop 0"));
        CHECK.due("aim(900, 1, 50), no drop", gap, gap.aim(900, 1, 50), 220, 0);
        CHECK.due("aim(900, 2, 50), no drop", gap, gap.aim(900, 2, 50), 200, 0);
        CHECK.due("aim(900, 0, 50), no drop", gap, gap.aim(900, 0, 50), 222, 0);
        // Clay 2 lets every cell fall past 500 by 33 at least, clay 3 by 26 at most.
        TwoMinds thick = Check.house(book(10).replace("shield 50", "shield 30").replace("drop 100", "drop 33"));
        CHECK.due("aim(900, 0, 50), all the clay there is", thick, thick.aim(900, 0, 50), 333, 0);
        TwoMinds two = Check.house(book(10).replace("wide 3", "wide 2"));
        CHECK.due("aim(900, 3, 50), two across", two, two.aim(900, 3, 50), -1, 2);
    }

    private static void scatters() {
        TwoMinds x = Check.house(book(9));
        CHECK.due("scatter(900, 0, 0)", x, x.scatter(900, 0, 0), 9, 0);
        CHECK.due("scatter(499, 0, 0)", x, x.scatter(499, 0, 0), 0, 0);
        CHECK.due("scatter(500, 0, 99)", x, x.scatter(500, 0, 99), 9, 0);
        CHECK.due("scatter(510, 20, 0)", x, x.scatter(510, 20, 0), 6, 0);
        CHECK.due("scatter(480, 20, 0)", x, x.scatter(480, 20, 0), 3, 0);
        CHECK.due("scatter(999, 99, 99)", x, x.scatter(999, 99, 99), 9, 0);
        CHECK.due("scatter(0, 99, 99)", x, x.scatter(0, 99, 99), 0, 0);
        CHECK.due("scatter(1000, 0, 0)", x, x.scatter(1000, 0, 0), -1, 2);
        CHECK.due("scatter(-1, 0, 0)", x, x.scatter(-1, 0, 0), -1, 2);
        CHECK.due("scatter(0, 100, 0)", x, x.scatter(0, 100, 0), -1, 2);
        CHECK.due("scatter(0, -1, 0)", x, x.scatter(0, -1, 0), -1, 2);
        CHECK.due("scatter(0, 0, 100)", x, x.scatter(0, 0, 100), -1, 2);
        CHECK.due("scatter(0, 0, -1)", x, x.scatter(0, 0, -1), -1, 2);
        x.clay(1, 1, 1);
        CHECK.due("clay of another cut is nothing to it", x.scatter(900, 0, 0), 9);
        x.clay(0, 1, 1);
        CHECK.due("clay of cut 0 is", x.scatter(900, 0, 0), 0);
        // The middle cell falls from 500 by (50 * (500 - water) / 100) / 2: by 100 if water is 99
        // at most, and not by 100 if it is 119: then nothing but the edge turns.
        TwoMinds warm = Check.house(book(9).replace("water 0", "water 99"));
        CHECK.due("scatter(500, 0, 20) in warm water", warm, warm.scatter(500, 0, 20), 6, 0);
    }

    private static void lowers() {
        TwoMinds x = Check.house(book(9));
        CHECK.due("more clay lowers most", x, x.lowers(510, 20, 0), 2, 0);
        CHECK.due("of like ones the first", x, x.lowers(500, 0, 0), 0, 0);
        CHECK.due("nothing is below 0", x, x.lowers(400, 0, 0), -2, 0);
        CHECK.due("lowers(1000, 0, 0)", x, x.lowers(1000, 0, 0), -1, 2);
        CHECK.due("lowers(0, 100, 0)", x, x.lowers(0, 100, 0), -1, 2);
        CHECK.due("lowers(0, 0, -1)", x, x.lowers(0, 0, -1), -1, 2);
        TwoMinds bare = Check.house(book(9).replace("shield 50", "shield 0"));
        CHECK.due("what isn't shielded", bare, bare.lowers(900, 0, 0), -2, 0);
        // Warmer water: above 99 the middle cell falls too slowly from 500 to turn, clay is idle.
        TwoMinds warm = Check.house(book(9).replace("shield 50", "shield 0").replace("water 0", "water 99"));
        CHECK.due("why of 520 in warm water", warm, warm.why(520), 0, 0);
        CHECK.due("why of 500 in warm water", warm, warm.why(500), 3, 0);
        CHECK.due("lowers of 500 in warm water", warm, warm.lowers(500, 0, 0), 0, 0);
        changes("water 80 pulls 40 shield 0 flow 0 swell 10", 11, 40, 50, "111", 600, 1, 2);
        changes("water 30 pulls 50 shield 10 flow 0 swell 30", 24, 40, 80, "210", 800, 1, 14);
        changes("water 20 pulls 50 shield 50 flow 0 swell 0", 2, 40, 0, "111", 700, 2, 4);
        changes("water 30 pulls 40 shield 10 flow 0 swell 30", 22, 20, 60, "122", 900, 3, 8);
        changes("water 60 pulls 30 shield 50 flow 0 swell 10", 28, 0, 20, "120", 500, 0, 15);
        changes("water 40 pulls 10 shield 40 flow 0 swell 20", 6, 40, 40, "001", 600, -2, 0);
    }

    /** What lowers the odds of one cut, and why it cracks; the runs were found by search. */
    private static void changes(String water, int bears, int room, int drop, String clay, int heat, int lowers,
            int why) {
        TwoMinds x = Check.house("bar long 1 wide 3;" + water + ";kind raw hard 0 room 0 bears " + bears
            + ";kind glass hard 90 room " + room + " bears " + bears + ";turn glass below 500 drop " + drop);
        for (int j = 0; j < 3; j++) {
            x.clay(0, j, clay.charAt(j) - '0');
        }
        CHECK.due("lowers(" + heat + ") in " + water, x, x.lowers(heat, 0, 0), lowers, 0);
        CHECK.due("why(" + heat + ") in " + water, x, x.why(heat), why, 0);
    }

    private static void whys() {
        TwoMinds x = Check.house(book(9));
        CHECK.due("why(510)", x, x.why(510), 5, 0);
        CHECK.due("why(900)", x, x.why(900), 4, 0);
        CHECK.due("why(499)", x, x.why(499), -1, 5);
        CHECK.due("why(1000)", x, x.why(1000), -1, 2);
        CHECK.due("why(-1)", x, x.why(-1), -1, 2);
        x.clay(0, 1, 1);
        CHECK.due("why of a clayed cut", x, x.why(510), -1, 5);
    }

    private static void byEye() {
        TwoMinds x = Check.house(book(9));
        CHECK.due("how many look dim", x, x.eye(0, 0, 0, 0, 0), 200, 0);
        CHECK.due("how many look hot", x, x.eye(1, 0, 0, 0, 0), 400, 0);
        CHECK.due("how many look hot by light 3", x, x.eye(1, 3, 0, 0, 0), 400, 0);
        CHECK.due("how many dim ones crack", x, x.eye(0, 0, 1, 0, 0), 100, 0);
        CHECK.due("how many dim ones crack by light 1", x, x.eye(0, 1, 1, 0, 0), 85, 0);
        CHECK.due("how many dim ones don't and are soft", x, x.eye(0, 0, 2, 0, 50), 100, 0);
        CHECK.due("how many dim ones don't and are as hard as raw", x, x.eye(0, 0, 2, 3, 5), 100, 0);
        CHECK.due("how many dim ones don't and have a cloud", x, x.eye(0, 0, 2, 1, 50), 0, 0);
        x.clay(0, 1, 1);
        CHECK.due("how many clayed ones have a cloud", x, x.eye(0, 0, 2, 1, 50), 100, 0);
        CHECK.due("how many clayed ones crack", x, x.eye(0, 0, 1, 1, 50), 0, 0);
        CHECK.due("colour 2", x, x.eye(2, 0, 0, 0, 0), -1, 1);
        CHECK.due("colour -1", x, x.eye(-1, 9, 0, 0, 0), -1, 1);
        CHECK.due("what 3", x, x.eye(0, 9, 3, 0, 0), -1, 1);
        CHECK.due("what -1", x, x.eye(0, 0, -1, 0, 0), -1, 1);
        CHECK.due("light 4", x, x.eye(0, 4, 0, 0, 0), -1, 2);
        CHECK.due("light -1", x, x.eye(0, -1, 0, 0, 0), -1, 2);
        CHECK.due("width 4", x, x.eye(0, 0, 0, 4, 0), -1, 2);
        CHECK.due("width -1", x, x.eye(0, 0, 1, -1, 0), -1, 2);
        CHECK.due("hard 100", x, x.eye(0, 0, 1, 0, 100), -1, 2);
        CHECK.due("hard -1", x, x.eye(0, 0, 2, 0, -1), -1, 2);
        // A cell behind a gap may be hard: by eye the cloud alone counts.
        TwoMinds gap = Check.house(book(10).replace("drop 100", "drop 0"));
        gap.clay(0, 1, 2);
        CHECK.due("a cloud ahead of a gap", gap, gap.eye(1, 0, 2, 1, 50), 400, 0);
    }

    /** A bar of one cut is put into water for 60 tenths, by every heat that looks so: slowly, so that all count. */
    private static void sixtyTenths() {
        String text = "bar long 1 wide 3;water 0 pulls 2 shield 10 flow 0 swell 5;kind raw hard 0 room 0 bears 900"
            + ";kind glass hard 90 room 30 bears 9;turn glass below 500 drop 0;red all 300 to 999";
        int cracks = 0;
        int clouds = 0;
        for (int heat = 300; heat <= 999; heat++) {
            TwoMinds x = Check.house(text);
            x.heat(heat);
            x.go(60);
            cracks += x.size(8);
            clouds += x.size(8) == 0 && x.cloud(0, 90) == 1 ? 1 : 0;
        }
        TwoMinds x = Check.house(text);
        CHECK.yes("some crack and some don't", cracks > 0 && clouds > 0);
        CHECK.due("how many crack in 60 tenths", x, x.eye(0, 0, 1, 0, 0), cracks, 0);
        CHECK.due("how many have a cloud then", x, x.eye(0, 0, 2, 1, 90), clouds, 0);
    }

    private static void trialsLeaveTheBar() {
        TwoMinds x = Check.house(book(9));
        x.heat(900);
        x.clay(0, 2, 1);
        x.go(2);
        x.aim(900, 1, 50);
        x.scatter(900, 9, 9);
        x.lowers(900, 9, 9);
        x.why(900);
        x.eye(1, 0, 2, 1, 1);
        CHECK.due("tenth", x.size(7), 2);
        CHECK.due("turned", x.size(9), 2);
        CHECK.due("heat", x.cell(0, 0, 0), 225);
        CHECK.due("clay of cell 1", x.cell(0, 1, 2), 0);
        CHECK.due("clay of cell 2", x.cell(0, 2, 2), 1);
        CHECK.due("go(9)", x, x.go(9), 1, 0);
    }
}

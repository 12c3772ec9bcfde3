/** Promises 26 and 28 to 31: colour, polish, stones, whose, odds. */
public final class SightTest {
    private static final Check CHECK = new Check("SightTest");

    public static void main(String[] args) {
        colours();
        stones();
        smiths();
        without();
        CHECK.end();
    }

    private static void colours() {
        TwoMinds x = Check.house(BookTest.WHOLE_BOOK + ";red a 300 to 399;red b 200 to 350;red c 999 to 999");
        int[][] due = {{299, 0, 1}, {300, 0, 0}, {399, 0, 0}, {400, 0, -2}, {199, 0, -2}, {200, 0, 1},
            {285, 1, 0}, {284, 1, 1}, {384, 1, 0}, {385, 1, -2}, {354, 3, 0}, {355, 3, -2}, {270, 2, 0},
            {999, 0, 2}, {954, 3, 2}, {999, 1, -2}, {0, 0, -2}};
        for (int[] d : due) {
            CHECK.due("colour(" + d[0] + ", " + d[1] + ")", x, x.colour(d[0], d[1]), d[2], 0);
        }
        CHECK.due("colour(1000, 0)", x, x.colour(1000, 0), -1, 2);
        CHECK.due("colour(-1, 0)", x, x.colour(-1, 0), -1, 2);
        CHECK.due("colour(0, 4)", x, x.colour(0, 4), -1, 2);
        CHECK.due("colour(0, -1)", x, x.colour(0, -1), -1, 2);
    }

    private static void stones() {
        TwoMinds x = Check.house(BookTest.WHOLE_BOOK + ";stone a days 5 shows 0,1,7;stone b days 2 shows 0"
            + ";stone c days 3 shows 1;stone d days 2 shows 0,2;stone e days 5 shows 0,1");
        int[][] due = {{0, 0, 0}, {1, 2, 2}, {2, 3, 4}, {3, 5, 1}, {4, 2, 8}, {7, 5, 12}, {128, 5, 1}, {131, 5, 1},
            {135, 7, 9}, {5, 2, 8}};
        for (int[] d : due) {
            CHECK.due("polish(" + d[0] + ")", x, x.polish(d[0]), d[1], 0);
            CHECK.due("stones(" + d[0] + ")", x, x.stones(d[0]), d[2], 0);
        }
        for (int signs : new int[] {8, 255, 64, 11}) {
            CHECK.due("polish(" + signs + ")", x, x.polish(signs), -1, 6);
            CHECK.due("stones(" + signs + ")", x, x.stones(signs), -1, 6);
        }
        for (int signs : new int[] {-1, 256, Integer.MIN_VALUE}) {
            CHECK.due("polish(" + signs + ")", x, x.polish(signs), -1, 2);
            CHECK.due("stones(" + signs + ")", x, x.stones(signs), -1, 2);
        }
    }

    private static void smiths() {
        TwoMinds x = Check.house(BookTest.WHOLE_BOOK + ";smith a 2,3;smith b 9,1,1,1,1,1,1,9;smith c 9,1,1,1,1,1,1,9"
            + ";smith d 9,9,9,9,9,9,9,9");
        CHECK.due("whose(0)", x, x.whose(0), 0, 0);
        CHECK.due("whose(1)", x, x.whose(1), 1, 0);
        CHECK.due("whose(129)", x, x.whose(129), 1, 0);
        CHECK.due("whose(2)", x, x.whose(2), 3, 0);
        CHECK.due("whose(256)", x, x.whose(256), -1, 2);
        CHECK.due("whose(-1)", x, x.whose(-1), -1, 2);
        CHECK.due("odds(0, 255)", x, x.odds(0, 255), 6, 0);
        CHECK.due("odds(0, 252)", x, x.odds(0, 252), 1, 0);
        CHECK.due("odds(1, 129)", x, x.odds(1, 129), 81, 0);
        CHECK.due("odds(3, 255)", x, x.odds(3, 255), 43046721, 0);
        CHECK.due("odds(-1, 0)", x, x.odds(-1, 0), 4, 0);
        CHECK.due("odds(-1, 255)", x, x.odds(-1, 255), 6 + 81 + 81 + 43046721, 0);
        CHECK.due("odds(4, 0)", x, x.odds(4, 0), Long.MIN_VALUE, 1);
        CHECK.due("odds(-2, 256)", x, x.odds(-2, 256), Long.MIN_VALUE, 1);
        CHECK.due("odds(0, 256)", x, x.odds(0, 256), Long.MIN_VALUE, 2);
        CHECK.due("odds(-1, -1)", x, x.odds(-1, -1), Long.MIN_VALUE, 2);
    }

    private static void without() {
        TwoMinds x = Check.house(BookTest.WHOLE_BOOK);
        CHECK.due("colour without reds", x, x.colour(500, 0), -2, 0);
        CHECK.due("eye without reds", x, x.eye(0, 0, 0, 0, 0), -1, 1);
        CHECK.due("polish(0) without stones", x, x.polish(0), 0, 0);
        CHECK.due("polish(1) without stones", x, x.polish(1), -1, 6);
        CHECK.due("whose without smiths", x, x.whose(256), -1, 1);
        CHECK.due("odds of all of no smiths", x, x.odds(-1, 0), 0, 0);
        CHECK.due("odds of the first of no smiths", x, x.odds(0, 0), Long.MIN_VALUE, 1);
    }
}

/** Promises 32, 33, 35 and 36: learn, next, size, trouble. */
public final class LearnTest {
    private static final Check CHECK = new Check("LearnTest");

    public static void main(String[] args) {
        learns();
        nexts();
        sizes();
        CHECK.end();
    }

    private static void learns() {
        TwoMinds x = Check.house(BookTest.WHOLE_BOOK);
        int[][] wrong = {{-1, 0, 0, 0}, {1000, 0, 0, 0}, {0, -1, 0, 0}, {0, 1000, 0, 0}, {0, 0, -1, 0},
            {0, 0, 4, 0}, {0, 0, 0, -1}, {0, 0, 0, 3}};
        for (int[] w : wrong) {
            CHECK.due("a wrong blade", x, x.learn(w[0], w[1], w[2], w[3]), -1, 2);
        }
        for (int k = 1; k <= 20; k++) {
            CHECK.due("blade " + k, x, x.learn(999, 999, 3, 2), k, 0);
        }
        CHECK.due("blade 21", x, x.learn(0, 0, 0, 0), -1, 3);
        CHECK.due("a wrong blade 21", x, x.learn(0, 0, 0, 3), -1, 2);
        CHECK.due("size(10)", x.size(10), 20);
    }

    /** NEXT of blades told one behind the other as heat, water, clay, how. */
    private static int nextOf(int... blades) {
        TwoMinds x = Check.house(BookTest.WHOLE_BOOK);
        for (int k = 0; k + 3 < blades.length; k += 4) {
            x.learn(blades[k], blades[k + 1], blades[k + 2], blades[k + 3]);
        }
        int next = x.next();
        CHECK.due("trouble() behind next()", x.trouble(), 0);
        return next;
    }

    private static void nexts() {
        CHECK.due("next of none", nextOf(), -2);
        CHECK.due("next of one", nextOf(5, 5, 1, 2), -2);
        CHECK.due("more heat went better", nextOf(5, 5, 1, 0, 6, 5, 1, 1), 0);
        CHECK.due("more water went better", nextOf(5, 5, 1, 1, 5, 9, 1, 2), 1);
        CHECK.due("more clay went better", nextOf(5, 5, 1, 0, 5, 5, 3, 2), 2);
        CHECK.due("less heat went better", nextOf(5, 5, 1, 0, 1, 5, 1, 1), 3);
        CHECK.due("less water went better", nextOf(5, 5, 1, 0, 5, 0, 1, 1), 4);
        CHECK.due("less clay went better", nextOf(5, 5, 1, 0, 5, 5, 0, 1), 5);
        CHECK.due("a first one that was told later", nextOf(6, 5, 1, 1, 5, 5, 1, 0), 0);
        CHECK.due("two that went alike", nextOf(5, 5, 1, 1, 6, 5, 1, 1), -2);
        CHECK.due("two that differ in two things", nextOf(5, 5, 1, 0, 6, 6, 1, 2), -2);
        CHECK.due("two that differ in nothing", nextOf(5, 5, 1, 0, 5, 5, 1, 2), -2);
        CHECK.due("once better, once worse", nextOf(5, 5, 1, 0, 6, 5, 1, 1, 7, 7, 1, 1, 8, 7, 1, 0), -2);
        CHECK.due("twice better, once worse",
            nextOf(5, 5, 1, 0, 6, 5, 1, 1, 7, 7, 1, 1, 8, 7, 1, 0, 1, 1, 1, 0, 2, 1, 1, 2), 0);
        CHECK.due("of like ones the first", nextOf(5, 5, 1, 0, 5, 5, 2, 1, 5, 6, 1, 1), 1);
        CHECK.due("the greatest", nextOf(5, 5, 1, 0, 5, 6, 1, 1, 5, 5, 2, 1, 5, 5, 3, 2), 2);
    }

    private static void sizes() {
        TwoMinds x = Check.house("bar long 8 wide 5;water 0 pulls 50 shield 0 flow 0 swell 0"
            + ";kind a hard 0 room 0 bears 999;kind b hard 9 room 50 bears 999;kind c hard 9 room 50 bears 999"
            + ";turn b below 500 drop 0;turn c below 500 drop 0;turn b below 400 drop 0;turn c below 400 drop 0"
            + ";red r 100 to 200;stone s days 1 shows 0;stone t days 1 shows 1;smith u 1");
        int[] due = {8, 5, 3, 4, 1, 2, 1, 0, 0, 0, 0, 0, 200};
        for (int what = 0; what < due.length; what++) {
            CHECK.due("size(" + what + ")", x.size(what), due[what]);
        }
        x.heat(600);
        x.go(1);
        CHECK.due("size(7)", x.size(7), 1);
        CHECK.due("size(9)", x.size(9), 16);
        x.feed(0, 0, 0, 0, 0);
        CHECK.due("size(11)", x.size(11), 20);
        CHECK.due("trouble behind feed", x.trouble(), 0);
        x.go(0);
        for (int what : new int[] {-1, 13, Integer.MIN_VALUE, Integer.MAX_VALUE}) {
            CHECK.due("size(" + what + ")", x.size(what), -1);
        }
        CHECK.due("trouble() behind size is that of go", x.trouble(), 2);
        CHECK.due("trouble() again", x.trouble(), 2);
        CHECK.due("whole pull of 4 across", Check.house(BookTest.WHOLE_BOOK.replace("wide 3", "wide 4")).size(12), 80);
    }
}

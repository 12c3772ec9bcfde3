/** Promises 22 to 25: lay, fold, layer, even. */
public final class FoldTest {
    private static final Check CHECK = new Check("FoldTest");

    public static void main(String[] args) {
        lays();
        folds();
        evens();
        CHECK.end();
    }

    private static void layers(TwoMinds x, int... want) {
        for (int k = 0; k < want.length; k++) {
            CHECK.due("layer(" + k + ")", x.layer(k), want[k]);
        }
    }

    private static TwoMinds laid(int... dirt) {
        TwoMinds x = Check.house(BookTest.WHOLE_BOOK);
        for (int k = 0; k < dirt.length; k++) {
            CHECK.due("lay(" + k + ", " + dirt[k] + ")", x, x.lay(k, dirt[k]), true, 0);
        }
        return x;
    }

    private static void lays() {
        TwoMinds x = laid(0, 9999, 2, 3, 4, 5, 6, 7, 9999);
        layers(x, 0, 9999, 2, 3, 4, 5, 6, 7, 9999, -1);
        CHECK.due("lay(0, 10000)", x, x.lay(0, 10000), false, 2);
        CHECK.due("lay(8, -1)", x, x.lay(8, -1), false, 2);
        CHECK.due("lay(9, -1)", x, x.lay(9, -1), false, 1);
        CHECK.due("lay(-1, 0)", x, x.lay(-1, 0), false, 1);
        x.lay(0, -1);
        CHECK.due("layer(-1)", x.layer(-1), -1);
        CHECK.due("trouble of the call ahead of layer", x.trouble(), 2);
        layers(x, 0, 9999, 2, 3, 4, 5, 6, 7, 9999);
    }

    private static void folds() {
        TwoMinds x = laid(1, 2, 10, 21, 101, 200, 1000, 3001, 149);
        CHECK.due("fold(1)", x, x.fold(1), 147, 0);
        layers(x, 1, 15, 150, 2000, 2000, 150, 15, 1, 147);
        CHECK.due("fold(1)", x, x.fold(1), 145, 0);
        layers(x, 8, 1075, 1075, 8, 8, 1075, 1075, 8, 145);
        CHECK.due("fold(0)", x, x.fold(0), -1, 2);
        CHECK.due("fold(21)", x, x.fold(21), -1, 2);
        layers(x, 8, 1075, 1075, 8, 8, 1075, 1075, 8, 145);
        CHECK.due("fold(20)", x, x.fold(20), 105, 0);
        layers(x, 541, 541, 541, 541, 541, 541, 541, 541, 105);
        TwoMinds thin = laid(0, 0, 0, 0, 0, 0, 0, 0, 49);
        CHECK.due("carbon below fifty stays", thin, thin.fold(20), 49, 0);
        TwoMinds thick = laid(0, 0, 0, 0, 0, 0, 0, 0, 9999);
        CHECK.due("carbon loses its fiftieth, downwards", thick, thick.fold(1), 9800, 0);
    }

    private static void evens() {
        TwoMinds x = laid(1, 2, 10, 21, 101, 200, 1000, 3001);
        CHECK.due("even(3000)", x, x.even(3000), 0, 0);
        CHECK.due("even(2999)", x, x.even(2999), 1, 0);
        CHECK.due("even(1999)", x, x.even(1999), 1, 0);
        CHECK.due("even(1998)", x, x.even(1998), 2, 0);
        CHECK.due("even(1067)", x, x.even(1067), 2, 0);
        CHECK.due("even(1066)", x, x.even(1066), 3, 0);
        CHECK.due("even(0)", x, x.even(0), 3, 0);
        CHECK.due("even(9999)", x, x.even(9999), 0, 0);
        CHECK.due("even(10000)", x, x.even(10000), -1, 2);
        CHECK.due("even(-1)", x, x.even(-1), -1, 2);
        layers(x, 1, 2, 10, 21, 101, 200, 1000, 3001, 0);
        x.fold(3);
        CHECK.due("even(0) behind three folds", x, x.even(0), 0, 0);
    }
}

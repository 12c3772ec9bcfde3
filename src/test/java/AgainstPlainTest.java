import java.util.NoSuchElementException;
import java.util.Random;

/** Runs of calls by seed, TwoMinds held against PlainHouse: ordinary numbers, edges and wrong ones. */
public final class AgainstPlainTest {
    private static final int RUNS = 600;
    // Some seven calls of the house each, with those that look at it: an object is used for 512 at most.
    private static final int CALLS = 60;
    private static final int[] EDGES = {Integer.MIN_VALUE, -1000, -2, -1, 0, 1, 2, 3, 4, 5, 7, 8, 9, 19, 20, 21,
        59, 60, 61, 98, 99, 100, 101, 255, 256, 399, 400, 401, 699, 700, 701, 998, 999, 1000, 9999, 10000,
        Integer.MAX_VALUE};

    private final Random random;
    private final TwoMinds x = new TwoMinds();
    private final PlainHouse plain = new PlainHouse();
    private final Check check;
    private String call = "";
    private int dear;

    private AgainstPlainTest(int seed) {
        random = new Random(seed);
        check = new Check("AgainstPlainTest run " + seed);
    }

    public static void main(String[] args) {
        for (int seed = 0; seed < RUNS; seed++) {
            new AgainstPlainTest(seed).run();
        }
        System.out.println("AgainstPlainTest: all answers are as due");
    }

    private void run() {
        if (random.nextInt(8) > 0) {
            tellBook();
        }
        for (int k = 0; k < CALLS; k++) {
            boolean wild = random.nextInt(12) == 0;
            int which = random.nextInt(100);
            if (which < 45) {
                callBar(wild);
            } else if (which < 50) {
                callTrials(wild);
            } else if (which < 70) {
                callRest(wild);
            } else if (which < 72) {
                tellBook();
            } else {
                look(wild);
            }
            check.due("trouble() behind " + call, x.trouble(), plain.trouble());
            check.due("where() behind " + call, x.where(), plain.where());
            check.due("fault() behind " + call, x.fault(), plain.fault());
        }
        check.end(true);
    }

    private int pick(boolean wild, int least, int most) {
        if (wild && random.nextInt(2) == 0) {
            return EDGES[random.nextInt(EDGES.length)];
        }
        return least + random.nextInt(most - least + 1);
    }

    private void same(String what, long got, long want) {
        call = what;
        check.due(what, got, want);
    }

    private void same(String what, boolean got, boolean want) {
        same(what, got ? 1 : 0, want ? 1 : 0);
    }

    private void tellBook() {
        String text = new BookMaker(random).text();
        for (int at = 0; at < text.length(); at += 20) {
            int[] n = new int[5];
            for (int k = 0; k < 20; k++) {
                n[k / 4] = n[k / 4] << 8 | (at + k < text.length() ? text.charAt(at + k) : 32);
            }
            same("feed", x.feed(n[0], n[1], n[2], n[3], n[4]), plain.feed(n));
        }
        int n = Math.min(700, text.length());
        same("book of '" + text + "'", x.book(n), plain.book(n));
    }

    private void callBar(boolean wild) {
        int i = pick(wild, 0, Math.max(0, x.size(0) - 1));
        int j = pick(wild, 0, Math.max(0, x.size(1) - 1));
        int v = random.nextInt(10);
        if (v == 0) {
            int heat = pick(wild, 500, 999);
            same("heat(" + heat + ")", x.heat(heat), plain.heat(heat));
        } else if (v < 3) {
            int t = pick(wild, 0, 3);
            same("clay(" + i + ", " + j + ", " + t + ")", x.clay(i, j, t), plain.clay(i, j, t));
        } else if (v < 6) {
            int n = random.nextInt(4) == 0 ? pick(wild, 1, 60) : pick(wild, 1, 4);
            same("go(" + n + ")", x.go(n), plain.go(n));
        } else if (v == 6) {
            int t = pick(wild, 0, Math.max(0, x.size(7)));
            same("again(" + t + ")", x.again(t), plain.again(t));
        } else if (v == 7) {
            same("pull(" + i + ", " + j + ")", x.pull(i, j), plain.pull(i, j));
        } else if (v == 8) {
            same("curve(" + i + ")", x.curve(i), plain.curve(i));
        } else {
            int what = pick(wild, 0, 2);
            same("bend(" + what + ")", x.bend(what), plain.bend(what));
        }
    }

    private void callTrials(boolean wild) {
        int heat = pick(wild, 300, 999);
        int width = pick(wild, 0, x.size(1));
        int hard = pick(wild, 0, 99);
        int byHeat = pick(wild, 0, 99);
        int byWater = pick(wild, 0, 99);
        int v = random.nextInt(5);
        if (v == 0) {
            same("scatter", x.scatter(heat, byHeat, byWater), plain.scatter(heat, byHeat, byWater));
        } else if (v == 1) {
            same("lowers", x.lowers(heat, byHeat, byWater), plain.lowers(heat, byHeat, byWater));
        } else if (v == 2) {
            same("why(" + heat + ")", x.why(heat), plain.why(heat));
        } else if (dear++ > 3) {
            same("cold()", x.cold(), plain.cold());
        } else if (v == 3) {
            same("aim(" + heat + ", " + width + ", " + hard + ")", x.aim(heat, width, hard),
                plain.aim(heat, width, hard));
        } else {
            int red = pick(wild, 0, Math.max(0, x.size(4) - 1));
            int light = pick(wild, 0, 3);
            int what = pick(wild, 0, 2);
            same("eye(" + red + ", " + light + ", " + what + ", " + width + ", " + hard + ")",
                x.eye(red, light, what, width, hard), plain.eye(red, light, what, width, hard));
        }
    }

    private void callRest(boolean wild) {
        int signs = pick(wild, 0, 255) & (random.nextBoolean() ? 15 : -1);
        switch (random.nextInt(10)) {
            case 0: {
                int layer = pick(wild, 0, 8);
                int dirt = pick(wild, 0, 9999);
                same("lay(" + layer + ", " + dirt + ")", x.lay(layer, dirt), plain.lay(layer, dirt));
                break;
            }
            case 1: {
                int n = random.nextInt(3) == 0 ? pick(wild, 1, 20) : pick(wild, 1, 1);
                same("fold(" + n + ")", x.fold(n), plain.fold(n));
                break;
            }
            case 2: {
                int t = pick(wild, 0, 3000);
                same("even(" + t + ")", x.even(t), plain.even(t));
                break;
            }
            case 3: {
                int heat = pick(wild, 0, 999);
                int light = pick(wild, 0, 3);
                same("colour(" + heat + ", " + light + ")", x.colour(heat, light), plain.colour(heat, light));
                break;
            }
            case 4:
                same("polish(" + signs + ")", x.polish(signs), plain.polish(signs));
                break;
            case 5:
                same("stones(" + signs + ")", x.stones(signs), plain.stones(signs));
                break;
            case 6:
                same("whose(" + signs + ")", x.whose(signs), plain.whose(signs));
                break;
            case 7: {
                int smith = pick(wild, -1, Math.max(0, x.size(6) - 1));
                same("odds(" + smith + ", " + signs + ")", x.odds(smith, signs), plain.odds(smith, signs));
                break;
            }
            case 8: {
                int heat = wild ? pick(true, 0, 999) : 700 + 20 * random.nextInt(3);
                int water = wild ? pick(true, 0, 999) : 10 * random.nextInt(3);
                int clay = pick(wild, 0, 3);
                int how = pick(wild, 0, 2);
                same("learn(" + heat + ", " + water + ", " + clay + ", " + how + ")",
                    x.learn(heat, water, clay, how), plain.learn(heat, water, clay, how));
                break;
            }
            default:
                same("next()", x.next(), plain.next());
        }
    }

    private void look(boolean wild) {
        int i = pick(wild, 0, Math.max(0, x.size(0) - 1));
        int j = pick(wild, 0, Math.max(0, x.size(1) - 1));
        int what = pick(wild, 0, 4);
        int hard = pick(wild, 0, 99);
        switch (random.nextInt(8)) {
            case 0:
                same("cell(" + i + ", " + j + ", " + what + ")", x.cell(i, j, what), plain.cell(i, j, what));
                break;
            case 1:
                same("crack(" + what + ")", x.crack(what), plain.crack(what));
                break;
            case 2:
                same("cold()", x.cold(), plain.cold());
                break;
            case 3:
                same("cloud(" + i + ", " + hard + ")", x.cloud(i, hard), plain.cloud(i, hard));
                break;
            case 4:
                same("chip(" + i + ", " + hard + ")", x.chip(i, hard), plain.chip(i, hard));
                break;
            case 5: {
                int layer = pick(wild, 0, 8);
                same("layer(" + layer + ")", x.layer(layer), plain.layer(layer));
                break;
            }
            case 6: {
                int of = pick(wild, 0, 12);
                same("size(" + of + ")", x.size(of), plain.size(of));
                break;
            }
            default: {
                int k = pick(wild, 0, x.size(9));
                same("led(" + k + ")", ledOfX(k), ledOfPlain(k));
            }
        }
    }

    private long ledOfX(int k) {
        try {
            return x.led(k);
        } catch (NoSuchElementException e) {
            return Long.MIN_VALUE;
        }
    }

    private long ledOfPlain(int k) {
        try {
            return plain.led(k);
        } catch (NoSuchElementException e) {
            return Long.MIN_VALUE;
        }
    }
}

import java.util.NoSuchElementException;

/** All that can be seen of a house with a small bar, as a text: two houses alike have like ones. */
final class Look {
    private final TwoMinds x;
    private final StringBuilder seen = new StringBuilder();

    private Look(TwoMinds x) {
        this.x = x;
    }

    /** What can be seen by calls that leave trouble() as it is. */
    static String quiet(TwoMinds x) {
        Look look = new Look(x);
        look.quietly();
        return look.seen.toString();
    }

    /** What all calls tell; it goes back through the tenths and reads the tape: nothing is left. */
    static String whole(TwoMinds x) {
        Look look = new Look(x);
        look.quietly();
        look.atBar();
        look.atRest();
        look.goingBack();
        look.readingOn();
        return look.seen.toString();
    }

    private void see(String what, long answer) {
        seen.append(what).append(' ').append(answer).append('\n');
    }

    private void quietly() {
        see("fault", x.fault());
        for (int what = -1; what <= 13; what++) {
            see("size " + what, x.size(what));
        }
        for (int layer = 0; layer <= 8; layer++) {
            see("layer " + layer, x.layer(layer));
        }
        atCells();
    }

    private void atCells() {
        see("tenth", x.size(7));
        for (int i = 0; i < Math.max(1, x.size(0)); i++) {
            for (int j = 0; j < Math.max(1, x.size(1)); j++) {
                for (int what = 0; what <= 4; what++) {
                    see("cell " + i + " " + j + " " + what, x.cell(i, j, what));
                }
            }
        }
        for (int k = 0; k <= x.size(9); k++) {
            try {
                see("led " + k, x.led(k));
            } catch (NoSuchElementException e) {
                see("led " + k + " threw", 0);
            }
        }
    }

    private void atBar() {
        for (int i = 0; i < x.size(0); i++) {
            for (int j = 0; j < x.size(1); j++) {
                see("pull", x.pull(i, j));
            }
            see("curve", x.curve(i));
            see("cloud", x.cloud(i, 20));
            see("chip", x.chip(i, 90));
        }
        for (int what = 0; what <= 2; what++) {
            see("bend " + what, x.bend(what));
            see("crack " + what, x.crack(what));
        }
        see("cold", x.cold());
    }

    private void atRest() {
        see("scatter", x.scatter(510, 30, 30));
        see("why", x.why(900));
        see("aim", x.aim(800, 1, 50));
        see("even", x.even(100));
        see("colour", x.colour(550, 1));
        see("eye", x.eye(0, 1, 2, 1, 50));
        see("polish", x.polish(7));
        see("stones", x.stones(1));
        see("whose", x.whose(1));
        see("odds", x.odds(-1, 3));
        see("next", x.next());
    }

    private void goingBack() {
        int tenths = x.size(7);
        for (int t : new int[] {tenths - 1, tenths / 2, 1, 0}) {
            see("again " + t, x.again(t) ? 1 : 0);
            atCells();
            see("bend", x.bend(1));
            see("bend", x.bend(2));
        }
        see("go", x.go(7));
        atCells();
    }

    private void readingOn() {
        see("learn", x.learn(800, 20, 0, 1));
        see("next", x.next());
        see("book", x.book(x.size(11)));
        see("fault", x.fault());
        see("where", x.where());
        for (int what = 0; what <= 12; what++) {
            see("size " + what, x.size(what));
        }
        see("heat", x.heat(900) ? 1 : 0);
        see("go", x.go(1));
        see("cell", x.cell(0, 0, 0));
        see("pull", x.pull(0, 0));
    }
}

/** Houses in the states in which a call may find them; made the same way each time. */
enum Scene {
    /** Nothing told yet. */
    NEW {
        @Override
        TwoMinds make() {
            return new TwoMinds();
        }
    },
    /** A whole text on the tape, but no book. */
    FED {
        @Override
        TwoMinds make() {
            TwoMinds x = new TwoMinds();
            Check.feed(x, OTHER);
            return x;
        }
    },
    /** A book just told, and nothing on the tape. */
    BOOKED {
        @Override
        TwoMinds make() {
            return Check.house(SMALL);
        }
    },
    /** A bar in tenth 3, folds, three blades, and another text on the tape. */
    WORKED {
        @Override
        TwoMinds make() {
            TwoMinds x = Check.house(SMALL);
            x.heat(801);
            x.clay(0, 0, 1);
            x.clay(1, 1, 3);
            x.go(3);
            foldAndLearn(x);
            Check.feed(x, OTHER);
            return x;
        }
    },
    /** A bar that cracked in tenth 3. */
    CRACKED {
        @Override
        TwoMinds make() {
            TwoMinds x = Check.house(BRITTLE);
            x.heat(900);
            x.go(60);
            foldAndLearn(x);
            return x;
        }
    },
    /** A tape of 700 bytes, a bar in tenth 400, twenty blades. */
    FULL {
        @Override
        TwoMinds make() {
            TwoMinds x = Check.house(SMALL);
            x.heat(999);
            x.clay(0, 1, 2);
            for (int k = 0; k < 8; k++) {
                x.go(50);
            }
            for (int k = 0; k < 20; k++) {
                x.learn(700 + k, 10, k % 4, k % 3);
            }
            StringBuilder text = new StringBuilder(OTHER);
            while (text.length() < 700) {
                text.append(' ');
            }
            Check.feed(x, text.toString());
            return x;
        }
    };

    /** Two cuts of two cells, some of every sort. */
    static final String SMALL = "bar long 2 wide 2;water 30 pulls 50 shield 40 flow 10 swell 25"
        + ";kind raw hard 10 room 0 bears 9;kind soft hard 20 room 7 bears 9;kind glass hard 90 room 30 bears 9"
        + ";turn glass below 500 drop 200;turn soft below 500 drop 0;red dim 400 to 599;red hot 500 to 999"
        + ";stone s days 3 shows 0,1;stone t days 2 shows 2;smith u 2,3;smith v 4";
    /** A text for the tape that isn't the book. */
    static final String OTHER = "bar long 1 wide 3;water 5 pulls 9 shield 1 flow 2 swell 3"
        + ";kind p hard 1 room 2 bears 3;kind q hard 4 room 5 bears 6;kind r hard 7 room 8 bears 9";
    /** Two cuts of three cells that turn in tenths 1, 3 and 4 if heated to 900, and crack in the third. */
    static final String BRITTLE = "bar long 2 wide 3;water 0 pulls 50 shield 0 flow 0 swell 0"
        + ";kind raw hard 0 room 0 bears 999;kind glass hard 90 room 30 bears 9;turn glass below 500 drop 0"
        + ";red hot 500 to 999;stone s days 3 shows 0;smith u 2";

    abstract TwoMinds make();

    private static void foldAndLearn(TwoMinds x) {
        for (int k = 0; k < 9; k++) {
            x.lay(k, 1000 + 111 * k * k);
        }
        x.fold(1);
        x.lay(2, 77);
        x.learn(800, 10, 0, 0);
        x.learn(700, 10, 0, 2);
        x.learn(700, 10, 1, 1);
    }
}

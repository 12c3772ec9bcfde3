import java.util.Arrays;
import java.util.NoSuchElementException;

/** A house where blades are made hard at the edge alone; DOC.md says what every call answers. */
public final class TwoMinds {
    /** There is none; refused. */
    public static final int NONE = -1;

    // What is answered where a thing could be, but did not come about.
    private static final int DIDNT = -2;

    // What is answered to a refused call where NONE could be a true answer.
    private static final int REFUSED_INT = -2147483648;
    private static final long REFUSED_LONG = -9223372036854775808L;

    private static final int NO_SUCH = 1;
    private static final int BAD_NUMBER = 2;
    private static final int NO_ROOM = 3;
    private static final int FAULTY = 4;
    private static final int NOT_SO = 5;
    private static final int THERE_IS_NONE = 6;

    private static final int TAPE_ROOM = 700;
    private static final int BYTES_FED = 20;
    private static final int MOST_HEAT = 999;
    private static final int MOST_HARD = 99;
    private static final int MOST_CLAY = 3;
    private static final int MOST_DIRT = 9999;
    private static final int MOST_FOLDS = 20;
    private static final int MOST_LIGHT = 3;
    private static final int ALL_SIGNS = 255;
    private static final int MOST_SCATTER = 99;
    private static final int MOST_GO = 60;
    private static final int LAST_TENTH = 400;

    private final byte[] tape = new byte[TAPE_ROOM];
    private final Billet billet = new Billet();
    private final Blades blades = new Blades();
    // Two books in all: a text is read into the spare one, so that a faulty one leaves the told one.
    private Book told = new Book();
    private Book spare = new Book();
    private final Reader reader = new Reader(spare);
    private final Bar bar = new Bar(told);
    private final Trials trials = new Trials(told);
    private boolean booked;
    private int taped;
    private int latestFault;
    private int latestTrouble;

    public TwoMinds() {
    }

    // ---- the book

    public int feed(int a, int b, int c, int d, int e) {
        if (taped + BYTES_FED > TAPE_ROOM) {
            return NONE;
        }
        putNumber(a);
        putNumber(b);
        putNumber(c);
        putNumber(d);
        putNumber(e);
        return taped;
    }

    public int book(int n) {
        if (!within(n, 0, taped)) {
            return refuse(BAD_NUMBER);
        }
        taped = 0;
        latestFault = reader.readInto(spare, tape, n);
        if (latestFault != 0) {
            return refuse(FAULTY);
        }
        Book old = told;
        told = spare;
        spare = old;
        booked = true;
        told.markTurns();
        bar.fit(told);
        trials.fit(told);
        billet.clear();
        blades.clear();
        return answer(told.kinds.count());
    }

    public int fault() {
        return latestFault;
    }

    public int where() {
        return latestTrouble == FAULTY ? reader.place() : NONE;
    }

    // ---- the bar

    public boolean heat(int v) {
        if (!booked) {
            return refuses(NO_SUCH);
        }
        if (!isHeat(v)) {
            return refuses(BAD_NUMBER);
        }
        bar.heatTo(v);
        return agrees();
    }

    public boolean clay(int i, int j, int t) {
        if (!bar.cells.has(i, j)) {
            return refuses(NO_SUCH);
        }
        if (!within(t, 0, MOST_CLAY)) {
            return refuses(BAD_NUMBER);
        }
        if (bar.cells.tenth() != 0) {
            return refuses(NOT_SO);
        }
        bar.cells.setClay(i, j, t);
        return agrees();
    }

    public int go(int n) {
        if (!booked) {
            return refuse(NO_SUCH);
        }
        if (!within(n, 1, MOST_GO)) {
            return refuse(BAD_NUMBER);
        }
        if (bar.cells.tenth() + n > LAST_TENTH) {
            return refuse(NO_ROOM);
        }
        if (bar.cells.isCracked()) {
            return refuse(NOT_SO);
        }
        return answer(bar.coolFor(n));
    }

    public boolean again(int tenth) {
        if (!booked) {
            return refuses(NO_SUCH);
        }
        if (!within(tenth, 0, bar.cells.tenth())) {
            return refuses(BAD_NUMBER);
        }
        bar.goBackTo(tenth);
        return agrees();
    }

    public int cell(int i, int j, int what) {
        if (!bar.cells.has(i, j)) {
            return NONE;
        }
        switch (what) {
            case 0:
                return bar.cells.heatOf(i, j);
            case 1:
                return bar.cells.kindOf(i, j);
            case 2:
                return bar.cells.clayOf(i, j);
            case 3:
                return bar.cells.sizeOf(i, j);
            case 4:
                return bar.cells.turnOf(i, j);
            default:
                return NONE;
        }
    }

    public long pull(int i, int j) {
        if (!bar.cells.has(i, j)) {
            refuse(NO_SUCH);
            return REFUSED_LONG;
        }
        latestTrouble = 0;
        return bar.cells.pullOf(i, j);
    }

    public int curve(int i) {
        if (!bar.cells.has(i, 0)) {
            refuse(NO_SUCH);
            return REFUSED_INT;
        }
        return answer(bar.cells.curveOf(i));
    }

    public int bend(int what) {
        if (!booked || !within(what, 0, 2)) {
            refuse(NO_SUCH);
            return REFUSED_INT;
        }
        if (what == 0) {
            return answer(bar.cells.bendNow());
        }
        return answer(what == 1 ? bar.leastBend() : bar.greatestBend());
    }

    public int crack(int what) {
        if (!booked || !within(what, 0, 2)) {
            return refuse(NO_SUCH);
        }
        if (!bar.cells.isCracked()) {
            return answer(DIDNT);
        }
        if (what == 0) {
            return answer(bar.cells.tenth());
        }
        return answer(what == 1 ? bar.cells.crackAlong() : bar.cells.crackAcross());
    }

    public int cold() {
        if (!booked) {
            return refuse(NO_SUCH);
        }
        return answer(bar.cells.isCold() ? 1 : 0);
    }

    public int cloud(int i, int hard) {
        if (!bar.cells.has(i, 0)) {
            return refuse(NO_SUCH);
        }
        if (!isHardness(hard)) {
            return refuse(BAD_NUMBER);
        }
        return answer(bar.cells.cloudOf(i, hard));
    }

    public int chip(int i, int hard) {
        if (!bar.cells.has(i, 0)) {
            return refuse(NO_SUCH);
        }
        if (!isHardness(hard)) {
            return refuse(BAD_NUMBER);
        }
        return answer(bar.cells.chipFrom(i, hard));
    }

    // ---- clay, odds, why

    public int aim(int heat, int width, int hard) {
        if (!booked) {
            return refuse(NO_SUCH);
        }
        if (!isHeat(heat) || !isWidth(width) || !isHardness(hard)) {
            return refuse(BAD_NUMBER);
        }
        int clays = trials.leastClay(heat, width, hard);
        return clays == NONE ? refuse(THERE_IS_NONE) : answer(clays);
    }

    public int scatter(int heat, int byHeat, int byWater) {
        if (!booked) {
            return refuse(NO_SUCH);
        }
        if (!isScatter(heat, byHeat, byWater)) {
            return refuse(BAD_NUMBER);
        }
        return answer(trialsOfBar().cracksOfNine(NONE, heat, byHeat, byWater));
    }

    public int lowers(int heat, int byHeat, int byWater) {
        if (!booked) {
            return refuse(NO_SUCH);
        }
        if (!isScatter(heat, byHeat, byWater)) {
            return refuse(BAD_NUMBER);
        }
        return answer(trialsOfBar().bestChange(heat, byHeat, byWater));
    }

    public int why(int heat) {
        if (!booked) {
            return refuse(NO_SUCH);
        }
        if (!isHeat(heat)) {
            return refuse(BAD_NUMBER);
        }
        Trials ofBar = trialsOfBar();
        return ofBar.cracksWith(NONE, heat) ? answer(ofBar.savingChanges(heat)) : refuse(NOT_SO);
    }

    // ---- folds

    public boolean lay(int layer, int v) {
        if (!booked || !billet.has(layer)) {
            return refuses(NO_SUCH);
        }
        if (!within(v, 0, MOST_DIRT)) {
            return refuses(BAD_NUMBER);
        }
        billet.put(layer, v);
        return agrees();
    }

    public int fold(int n) {
        if (!booked) {
            return refuse(NO_SUCH);
        }
        if (!within(n, 1, MOST_FOLDS)) {
            return refuse(BAD_NUMBER);
        }
        return answer(billet.foldTimes(n));
    }

    public int layer(int layer) {
        return booked && billet.has(layer) ? billet.at(layer) : NONE;
    }

    public int even(int t) {
        if (!booked) {
            return refuse(NO_SUCH);
        }
        if (!within(t, 0, MOST_DIRT)) {
            return refuse(BAD_NUMBER);
        }
        int folds = billet.foldsTillEven(t);
        return folds == NONE ? refuse(THERE_IS_NONE) : answer(folds);
    }

    // ---- colours, stones, smiths

    public int colour(int heat, int light) {
        if (!booked) {
            return refuse(NO_SUCH);
        }
        if (!isHeat(heat) || !within(light, 0, MOST_LIGHT)) {
            return refuse(BAD_NUMBER);
        }
        return answer(told.redOf(heat, light));
    }

    public int eye(int colour, int light, int what, int width, int hard) {
        if (!booked || !within(colour, 0, told.reds.count() - 1) || !within(what, 0, 2)) {
            return refuse(NO_SUCH);
        }
        if (!within(light, 0, MOST_LIGHT) || !isWidth(width) || !isHardness(hard)) {
            return refuse(BAD_NUMBER);
        }
        if (what == 0) {
            return answer(trials.lookingSo(colour, light));
        }
        if (what == 1) {
            return answer(trialsOfBar().crackingByEye(colour, light));
        }
        return answer(trialsOfBar().cloudedByEye(colour, light, width, hard));
    }

    public int polish(int signs) {
        return shown(signs, true);
    }

    public int stones(int signs) {
        return shown(signs, false);
    }

    public int whose(int signs) {
        if (!booked || told.smiths.count() == 0) {
            return refuse(NO_SUCH);
        }
        if (!isSigns(signs)) {
            return refuse(BAD_NUMBER);
        }
        return answer(told.likeliestSmith(signs));
    }

    public long odds(int smith, int signs) {
        if (!booked || !within(smith, NONE, told.smiths.count() - 1)) {
            refuse(NO_SUCH);
            return REFUSED_LONG;
        }
        if (!isSigns(signs)) {
            refuse(BAD_NUMBER);
            return REFUSED_LONG;
        }
        latestTrouble = 0;
        return smith == NONE ? told.productOfAll(signs) : told.productOf(smith, signs);
    }

    // ---- learning

    public int learn(int heat, int water, int clay, int how) {
        if (!booked) {
            return refuse(NO_SUCH);
        }
        if (!isHeat(heat) || !isHeat(water) || !within(clay, 0, MOST_CLAY) || !within(how, 0, 2)) {
            return refuse(BAD_NUMBER);
        }
        if (blades.isFull()) {
            return refuse(NO_ROOM);
        }
        return answer(blades.add(heat, water, clay, how));
    }

    public int next() {
        if (!booked) {
            return refuse(NO_SUCH);
        }
        return answer(blades.bestWay());
    }

    public int led(int i) throws NoSuchElementException {
        if (!within(i, 0, bar.cells.turned() - 1)) {
            throw new NoSuchElementException();
        }
        return bar.cells.turnedCell(i);
    }

    public int size(int what) {
        switch (what) {
            case 0:
                return bar.cells.cuts();
            case 1:
                return bar.cells.width();
            case 7:
                return bar.cells.tenth();
            case 8:
                return bar.cells.isCracked() ? 1 : 0;
            case 9:
                return bar.cells.turned();
            case 10:
                return blades.count();
            case 11:
                return taped;
            case 12:
                return bar.cells.wholePull();
            default:
                return linesTold(what);
        }
    }

    public int trouble() {
        return latestTrouble;
    }

    // ---- what the calls share

    private int refuse(int number) {
        latestTrouble = number;
        return NONE;
    }

    private boolean refuses(int number) {
        latestTrouble = number;
        return false;
    }

    private int answer(int value) {
        latestTrouble = 0;
        return value;
    }

    private boolean agrees() {
        latestTrouble = 0;
        return true;
    }

    private void putNumber(int number) {
        for (int shift = 24; shift >= 0; shift -= 8) {
            if (taped < tape.length) {
                tape[taped] = (byte) (number >>> shift);
                taped++;
            }
        }
    }

    /** The trials, clayed as cut 0 of the bar is now. */
    private Trials trialsOfBar() {
        for (int j = 0; j < bar.cells.width(); j++) {
            trials.setClay(j, bar.cells.clayOf(0, j));
        }
        return trials;
    }

    private int shown(int signs, boolean asDays) {
        if (!booked) {
            return refuse(NO_SUCH);
        }
        if (!isSigns(signs)) {
            return refuse(BAD_NUMBER);
        }
        int some = told.stonesThatShow(signs);
        if (some == NONE) {
            return refuse(THERE_IS_NONE);
        }
        return answer(asDays ? told.daysOf(some) : some);
    }

    private int linesTold(int what) {
        switch (what) {
            case 2:
                return told.kinds.count();
            case 3:
                return told.turns.count();
            case 4:
                return told.reds.count();
            case 5:
                return told.stones.count();
            case 6:
                return told.smiths.count();
            default:
                return NONE;
        }
    }

    private boolean isWidth(int width) {
        return within(width, 0, bar.cells.width());
    }

    private static boolean isHeat(int v) {
        return within(v, 0, MOST_HEAT);
    }

    private static boolean isHardness(int hard) {
        return within(hard, 0, MOST_HARD);
    }

    private static boolean isSigns(int signs) {
        return within(signs, 0, ALL_SIGNS);
    }

    private static boolean isScatter(int heat, int byHeat, int byWater) {
        return isHeat(heat) && within(byHeat, 0, MOST_SCATTER) && within(byWater, 0, MOST_SCATTER);
    }

    private static boolean within(int v, int least, int most) {
        return v >= least && v <= most;
    }

    private static int kept(int v, int least, int most) {
        return v < least ? least : v > most ? most : v;
    }

    /** The lines of one sort in a book, each a row of numbers. */
    private static final class Lines {
        private final int most;
        private final int columns;
        private final int[] numbers;
        private int count;

        Lines(int most, int columns) {
            this.most = most;
            this.columns = columns;
            this.numbers = new int[most * columns];
        }

        void clear() {
            count = 0;
        }

        int count() {
            return count;
        }

        boolean isFull() {
            return count >= most;
        }

        int at(int row, int column) {
            if (row < 0 || row >= count || column < 0 || column >= columns) {
                return 0;
            }
            return numbers[row * columns + column];
        }

        /** Puts a number into the row that is being told; close() makes the row count. */
        void put(int column, int number) {
            if (count < most && column >= 0 && column < columns) {
                numbers[count * columns + column] = number;
            }
        }

        void close() {
            if (count < most) {
                count++;
            }
        }
    }

    /** What a text has told. */
    private static final class Book {
        static final int LONG = 0;
        static final int WIDE = 1;
        static final int WATER = 0;
        static final int PULLS = 1;
        static final int SHIELD = 2;
        static final int FLOW = 3;
        static final int SWELL = 4;
        static final int HARD = 0;
        static final int ROOM = 1;
        static final int BEARS = 2;
        static final int TO_KIND = 0;
        static final int BELOW = 1;
        static final int DROP = 2;
        static final int FROM = 0;
        static final int TO = 1;
        static final int DAYS = 0;
        static final int SHOWS = 1;
        static final int SIGNS = 8;
        static final int HEAT_OF_LIGHT = 15;

        final Lines bars = new Lines(1, 2);
        final Lines waters = new Lines(1, 5);
        final Lines kinds = new Lines(5, 3);
        final Lines turns = new Lines(6, 3);
        final Lines reds = new Lines(6, 2);
        final Lines stones = new Lines(6, 2);
        final Lines smiths = new Lines(5, SIGNS);
        private int lowestBelow;
        private int highestBelow;

        /** Marks between which heats alone a cell can turn: most falls need no look at the turns. */
        void markTurns() {
            lowestBelow = MOST_HEAT;
            highestBelow = 0;
            for (int t = 0; t < turns.count(); t++) {
                lowestBelow = Math.min(lowestBelow, turns.at(t, BELOW));
                highestBelow = Math.max(highestBelow, turns.at(t, BELOW));
            }
        }

        void clear() {
            bars.clear();
            waters.clear();
            kinds.clear();
            turns.clear();
            reds.clear();
            stones.clear();
            smiths.clear();
        }

        /** The kind to which a cell of the first one turns that falls so; the first one if to none. */
        int kindOfFall(int ahead, int now) {
            if (now >= ahead || now >= highestBelow || ahead < lowestBelow) {
                return 0;
            }
            for (int t = 0; t < turns.count(); t++) {
                int below = turns.at(t, BELOW);
                if (below > now && below <= ahead && turns.at(t, DROP) <= ahead - now) {
                    return turns.at(t, TO_KIND);
                }
            }
            return 0;
        }

        int redOf(int heat, int light) {
            int look = heat + HEAT_OF_LIGHT * light;
            for (int r = 0; r < reds.count(); r++) {
                if (look >= reds.at(r, FROM) && look <= reds.at(r, TO)) {
                    return r;
                }
            }
            return DIDNT;
        }

        int stonesThatShow(int signs) {
            int best = NONE;
            int fewest = 0;
            int end = 1 << stones.count();
            // Upwards, so that of like ones the lesser number is met first.
            for (int some = 0; some < end; some++) {
                int days = daysOf(some);
                if ((best == NONE || days < fewest) && (signs & ~signsOf(some)) == 0) {
                    fewest = days;
                    best = some;
                }
            }
            return best;
        }

        int daysOf(int some) {
            int days = 0;
            for (int s = 0; s < stones.count(); s++) {
                if ((some >> s & 1) == 1) {
                    days += stones.at(s, DAYS);
                }
            }
            return days;
        }

        private int signsOf(int some) {
            int signs = 0;
            for (int s = 0; s < stones.count(); s++) {
                if ((some >> s & 1) == 1) {
                    signs |= stones.at(s, SHOWS);
                }
            }
            return signs;
        }

        long productOf(int smith, int signs) {
            long product = 1;
            for (int s = 0; s < SIGNS; s++) {
                if ((signs >> s & 1) == 1) {
                    product *= smiths.at(smith, s);
                }
            }
            return product;
        }

        long productOfAll(int signs) {
            long sum = 0;
            for (int s = 0; s < smiths.count(); s++) {
                sum += productOf(s, signs);
            }
            return sum;
        }

        int likeliestSmith(int signs) {
            int best = NONE;
            long greatest = 0;
            for (int s = 0; s < smiths.count(); s++) {
                long product = productOf(s, signs);
                if (product > greatest) {
                    greatest = product;
                    best = s;
                }
            }
            return best;
        }
    }

    /** Parts a text into tokens and knows the place of the one at hand. */
    private static final class Tokens {
        static final int END = 0;
        static final int WORD = 1;
        static final int WHOLE = 2;
        static final int SEMICOLON = 3;
        static final int COMMA = 4;
        static final int NOTHING = 5;
        private static final int LONGEST_WORD = 8;
        private static final int LONGEST_WHOLE = 3;

        private byte[] text = new byte[0];
        private int end;
        private int start;
        private int behind;
        private int sort;

        void begin(byte[] bytes, int n) {
            text = bytes;
            end = kept(n, 0, bytes.length);
            behind = 0;
            step();
        }

        int sort() {
            return sort;
        }

        int place() {
            return start;
        }

        void step() {
            start = behind;
            while (start < end && text[start] == ' ') {
                start++;
            }
            behind = start;
            if (start >= end) {
                sort = END;
                return;
            }
            int first = text[start];
            if (first >= 'a' && first <= 'z') {
                takeRun('a', 'z');
                sort = behind - start <= LONGEST_WORD ? WORD : NOTHING;
            } else if (first >= '0' && first <= '9') {
                takeRun('0', '9');
                sort = behind - start <= LONGEST_WHOLE ? WHOLE : NOTHING;
            } else {
                sort = first == ';' ? SEMICOLON : first == ',' ? COMMA : NOTHING;
                behind = start + 1;
            }
        }

        private void takeRun(int least, int most) {
            while (behind < end && text[behind] >= least && text[behind] <= most) {
                behind++;
            }
        }

        boolean isWord(String word) {
            int length = word.length();
            if (sort != WORD || behind - start != length) {
                return false;
            }
            for (int k = 0; k < length; k++) {
                if (text[start + k] != word.charAt(k)) {
                    return false;
                }
            }
            return true;
        }

        /** A number for the word at hand, unlike that of every other word. */
        long wordNumber() {
            long number = 0;
            for (int k = start; k < behind; k++) {
                number = number * 27 + (text[k] - 'a' + 1);
            }
            return number;
        }

        int wholeNumber() {
            int number = 0;
            for (int k = start; k < behind; k++) {
                number = number * 10 + (text[k] - '0');
            }
            return number;
        }
    }

    /**
     * Reads a text into a book, from the left, up to its first fault. Within a line each step is
     * made ahead of looking; behind a line the token that follows it is at hand.
     */
    private static final class Reader {
        private static final int FORM = 1;
        private static final int NOT_A_KIND = 2;
        private static final int TWICE = 3;
        private static final int OUT_OF_BOUNDS = 4;
        private static final int MANY = 5;
        private static final int LACKS = 6;
        private static final int MOST_NAMES = 22;

        private final Tokens tokens = new Tokens();
        private final long[] names = new long[MOST_NAMES];
        private final int[] kindNamed = new int[MOST_NAMES];
        private int nameCount;
        private Book book;
        private int latestWhole;
        private int fault;

        Reader(Book empty) {
            book = empty;
        }

        /** The fault of the first n bytes, 0 if they are a book. */
        int readInto(Book empty, byte[] text, int n) {
            book = empty;
            book.clear();
            nameCount = 0;
            fault = 0;
            tokens.begin(text, n);
            boolean goesOn = readLine();
            for (int line = 0; line < TAPE_ROOM && goesOn && tokens.sort() != Tokens.END; line++) {
                goesOn = parts() && readLine();
            }
            if (goesOn && lacks()) {
                fails(LACKS);
            }
            return fault;
        }

        /** The place of the fault: nothing is read behind it. */
        int place() {
            return tokens.place();
        }

        private boolean parts() {
            if (tokens.sort() != Tokens.SEMICOLON) {
                return fails(FORM);
            }
            tokens.step();
            return true;
        }

        private boolean lacks() {
            return !book.bars.isFull() || !book.waters.isFull() || book.kinds.count() < 2;
        }

        private boolean readLine() {
            if (tokens.isWord("bar")) {
                return hasRoom(book.bars, TWICE) && readBar(book.bars);
            }
            if (tokens.isWord("water")) {
                return hasRoom(book.waters, TWICE) && readWater(book.waters);
            }
            if (tokens.isWord("kind")) {
                return hasRoom(book.kinds, MANY) && readKind(book.kinds);
            }
            if (tokens.isWord("turn")) {
                return hasRoom(book.turns, MANY) && readTurn(book.turns);
            }
            if (tokens.isWord("red")) {
                return hasRoom(book.reds, MANY) && readRed(book.reds);
            }
            if (tokens.isWord("stone")) {
                return hasRoom(book.stones, MANY) && readStone(book.stones);
            }
            if (tokens.isWord("smith")) {
                return hasRoom(book.smiths, MANY) && readSmith(book.smiths);
            }
            return fails(FORM);
        }

        private boolean hasRoom(Lines lines, int faultIfFull) {
            return !lines.isFull() || fails(faultIfFull);
        }

        private boolean readBar(Lines bars) {
            return tells("long", 1, 8, bars, Book.LONG)
                && tells("wide", 2, 5, bars, Book.WIDE)
                && ends(bars);
        }

        private boolean readWater(Lines waters) {
            return tellsWhole(0, 99, waters, Book.WATER)
                && tells("pulls", 1, 50, waters, Book.PULLS)
                && tells("shield", 0, 60, waters, Book.SHIELD)
                && tells("flow", 0, 12, waters, Book.FLOW)
                && tells("swell", 0, 50, waters, Book.SWELL)
                && ends(waters);
        }

        private boolean readKind(Lines kinds) {
            return takesNewName(kinds.count())
                && tells("hard", 0, 99, kinds, Book.HARD)
                && tells("room", 0, 50, kinds, Book.ROOM)
                && tells("bears", 1, 999, kinds, Book.BEARS)
                && ends(kinds);
        }

        private boolean readTurn(Lines turns) {
            return takesKindTurnedTo(turns)
                && tells("below", 100, 900, turns, Book.BELOW)
                && tells("drop", 0, 400, turns, Book.DROP)
                && ends(turns);
        }

        private boolean readRed(Lines reds) {
            return takesNewName(NONE)
                && tellsWhole(100, 999, reds, Book.FROM)
                && tells("to", latestWhole, 999, reds, Book.TO)
                && ends(reds);
        }

        private boolean ends(Lines lines) {
            lines.close();
            tokens.step();
            return true;
        }

        private boolean readStone(Lines stones) {
            return takesNewName(NONE)
                && tells("days", 1, 20, stones, Book.DAYS)
                && takesWord("shows")
                && readSigns(stones);
        }

        private boolean readSigns(Lines stones) {
            int signs = 0;
            // A ninth sign cannot be unlike the eight ahead of it: the loop ends by a fault then.
            for (int s = 0; s <= Book.SIGNS; s++) {
                tokens.step();
                if (!isWhole(0, Book.SIGNS - 1)) {
                    return false;
                }
                if ((signs >> latestWhole & 1) == 1) {
                    return fails(TWICE);
                }
                signs |= 1 << latestWhole;
                tokens.step();
                if (tokens.sort() != Tokens.COMMA) {
                    break;
                }
            }
            stones.put(Book.SHOWS, signs);
            stones.close();
            return true;
        }

        private boolean readSmith(Lines smiths) {
            if (!takesNewName(NONE)) {
                return false;
            }
            for (int s = 0; s < Book.SIGNS; s++) {
                smiths.put(s, 1);
            }
            for (int s = 0; s <= Book.SIGNS; s++) {
                tokens.step();
                if (!isWhole(1, 9)) {
                    return false;
                }
                if (s == Book.SIGNS) {
                    return fails(MANY);
                }
                smiths.put(s, latestWhole);
                tokens.step();
                if (tokens.sort() != Tokens.COMMA) {
                    break;
                }
            }
            smiths.close();
            return true;
        }

        private boolean tells(String word, int least, int most, Lines lines, int column) {
            tokens.step();
            if (!tokens.isWord(word)) {
                return fails(FORM);
            }
            tokens.step();
            return isWhole(least, most) && keeps(lines, column);
        }

        private boolean tellsWhole(int least, int most, Lines lines, int column) {
            tokens.step();
            return isWhole(least, most) && keeps(lines, column);
        }

        private boolean keeps(Lines lines, int column) {
            lines.put(column, latestWhole);
            return true;
        }

        private boolean takesWord(String word) {
            tokens.step();
            return tokens.isWord(word) || fails(FORM);
        }

        private boolean isWhole(int least, int most) {
            if (tokens.sort() != Tokens.WHOLE) {
                return fails(FORM);
            }
            latestWhole = tokens.wholeNumber();
            return within(latestWhole, least, most) || fails(OUT_OF_BOUNDS);
        }

        private boolean takesNewName(int kind) {
            tokens.step();
            if (!isName()) {
                return fails(FORM);
            }
            if (nameAtHand() != NONE || nameCount >= MOST_NAMES) {
                return fails(TWICE);
            }
            names[nameCount] = tokens.wordNumber();
            kindNamed[nameCount] = kind;
            nameCount++;
            return true;
        }

        private boolean takesKindTurnedTo(Lines turns) {
            tokens.step();
            if (!isName()) {
                return fails(FORM);
            }
            int name = nameAtHand();
            int kind = name == NONE ? NONE : kindNamed[name];
            turns.put(Book.TO_KIND, kind);
            return kind > 0 || fails(NOT_A_KIND);
        }

        private boolean isName() {
            return tokens.sort() == Tokens.WORD
                && !tokens.isWord("bar") && !tokens.isWord("water") && !tokens.isWord("kind")
                && !tokens.isWord("turn") && !tokens.isWord("red") && !tokens.isWord("stone")
                && !tokens.isWord("smith");
        }

        private int nameAtHand() {
            long word = tokens.wordNumber();
            for (int k = 0; k < nameCount; k++) {
                if (names[k] == word) {
                    return k;
                }
            }
            return NONE;
        }

        private boolean fails(int number) {
            fault = number;
            return false;
        }
    }

    /** Cuts of cells that cool in water, turn, pull and crack. */
    private static final class Cells {
        private static final int MOST_CUTS = 8;
        private static final int MOST_WIDE = 5;
        private static final int ROOM = MOST_CUTS * MOST_WIDE;
        private static final int COLD_HEAT = 99;

        private final int[] clays = new int[ROOM];
        private final int[] opens = new int[ROOM];
        private final int[] kindsNow = new int[ROOM];
        private final int[] rooms = new int[ROOM];
        private final int[] mostPulls = new int[ROOM];
        private final int[] sizes = new int[ROOM];
        private final int[] turnTenths = new int[ROOM];
        private final int[] turnOrder = new int[ROOM];
        private int[] heats = new int[ROOM];
        private int[] heatsAhead = new int[ROOM];
        private Book book;
        private int cuts;
        private int width;
        private int allSquared;
        private int water;
        private int tenth;
        private int turned;
        private int crackedCell = NONE;

        /** No cells, till fit() tells how many there are. */
        Cells(Book empty) {
            book = empty;
        }

        void fit(Book told, int cutsWanted) {
            book = told;
            cuts = kept(cutsWanted, 0, MOST_CUTS);
            width = kept(told.bars.at(0, Book.WIDE), 0, MOST_WIDE);
            water = told.waters.at(0, Book.WATER);
            allSquared = 0;
            for (int j = 0; j < width; j++) {
                int x = 2 * j - (width - 1);
                allSquared += x * x;
            }
            Arrays.fill(clays, 0);
            Arrays.fill(opens, 100);
            heatTo(0);
        }

        void heatTo(int v) {
            Arrays.fill(heats, v);
            Arrays.fill(kindsNow, 0);
            Arrays.fill(rooms, book.kinds.at(0, Book.ROOM));
            Arrays.fill(mostPulls, book.kinds.at(0, Book.BEARS) * wholePull());
            Arrays.fill(turnTenths, DIDNT);
            tenth = 0;
            turned = 0;
            crackedCell = NONE;
            for (int i = 0; i < cuts; i++) {
                sizeCut(i);
            }
        }

        void pourWater(int v) {
            water = v;
        }

        void setClay(int i, int j, int t) {
            if (has(i, j)) {
                clays[i * MOST_WIDE + j] = t;
                opens[i * MOST_WIDE + j] = Math.max(0, 100 - book.waters.at(0, Book.SHIELD) * t);
            }
        }

        /** One tenth more: whether any heat moved in it. */
        boolean coolOnce() {
            int[] older = heatsAhead;
            heatsAhead = heats;
            heats = older;
            tenth++;
            boolean moves = false;
            for (int i = 0; i < cuts; i++) {
                if (coolCut(i)) {
                    moves = true;
                }
                for (int j = 0; j < width; j++) {
                    int here = i * MOST_WIDE + j;
                    int kind = kindsNow[here] == 0 ? book.kindOfFall(heatsAhead[here], heats[here]) : 0;
                    if (kind != 0) {
                        turnCell(here, kind);
                    }
                }
                sizeCut(i);
                strainCut(i);
            }
            return moves;
        }

        private boolean coolCut(int i) {
            int pulls = book.waters.at(0, Book.PULLS);
            int flow = book.waters.at(0, Book.FLOW);
            boolean moves = false;
            for (int j = 0; j < width; j++) {
                int here = i * MOST_WIDE + j;
                int own = heatsAhead[here];
                int mass = j + 1;
                int lost = pulls * (own - water) / 100 * opens[here] / 100 / mass;
                heats[here] = own - lost + (flow == 0 ? 0 : gained(i, j, flow));
                if (heats[here] != own) {
                    moves = true;
                }
            }
            return moves;
        }

        private int gained(int i, int j, int flow) {
            int here = i * MOST_WIDE + j;
            int own = heatsAhead[here];
            int sum = 0;
            if (i > 0) {
                sum += flow * (heatsAhead[here - MOST_WIDE] - own) / 100;
            }
            if (i + 1 < cuts) {
                sum += flow * (heatsAhead[here + MOST_WIDE] - own) / 100;
            }
            if (j > 0) {
                sum += flow * (heatsAhead[here - 1] - own) / 100;
            }
            if (j + 1 < width) {
                sum += flow * (heatsAhead[here + 1] - own) / 100;
            }
            return sum;
        }

        private void turnCell(int here, int kind) {
            if (turned < ROOM) {
                kindsNow[here] = kind;
                rooms[here] = book.kinds.at(kind, Book.ROOM);
                mostPulls[here] = book.kinds.at(kind, Book.BEARS) * wholePull();
                turnTenths[here] = tenth;
                turnOrder[turned] = here;
                turned++;
            }
        }

        private void sizeCut(int i) {
            int swell = book.waters.at(0, Book.SWELL);
            for (int j = 0; j < width; j++) {
                int here = i * MOST_WIDE + j;
                sizes[here] = swell * heats[here] / 100 + rooms[here];
            }
        }

        /** Cracks the bar, if it is whole, at the first cell of a cut that bears less than its pull. */
        private void strainCut(int i) {
            int total = totalOf(i);
            int curve = curveOf(i);
            for (int j = 0; j < width && crackedCell == NONE; j++) {
                int here = i * MOST_WIDE + j;
                if (Math.abs(pullBy(i, j, total, curve)) > mostPulls[here]) {
                    crackedCell = here;
                }
            }
        }

        // Size times whole pull, less total times all x squared, less curve times x times wide.
        private int pullBy(int i, int j, int total, int curve) {
            int x = 2 * j - (width - 1);
            return (sizes[i * MOST_WIDE + j] * width - total) * allSquared - curve * x * width;
        }

        private int totalOf(int i) {
            int sum = 0;
            for (int j = 0; j < width; j++) {
                sum += sizes[i * MOST_WIDE + j];
            }
            return sum;
        }

        int curveOf(int i) {
            int sum = 0;
            int x = 1 - width;
            for (int j = 0; j < width; j++) {
                sum += sizes[i * MOST_WIDE + j] * x;
                x += 2;
            }
            return sum;
        }

        int pullOf(int i, int j) {
            return has(i, j) ? pullBy(i, j, totalOf(i), curveOf(i)) : 0;
        }

        int wholePull() {
            return width * allSquared;
        }

        int bendNow() {
            int sum = 0;
            for (int i = 0; i < cuts; i++) {
                sum += curveOf(i);
            }
            return sum;
        }

        boolean has(int i, int j) {
            return i >= 0 && i < cuts && j >= 0 && j < width;
        }

        int cuts() {
            return cuts;
        }

        int width() {
            return width;
        }

        int tenth() {
            return tenth;
        }

        int turned() {
            return turned;
        }

        boolean isCracked() {
            return crackedCell != NONE;
        }

        int crackAlong() {
            return crackedCell / MOST_WIDE;
        }

        int crackAcross() {
            return crackedCell % MOST_WIDE;
        }

        int heatOf(int i, int j) {
            return has(i, j) ? heats[i * MOST_WIDE + j] : NONE;
        }

        int kindOf(int i, int j) {
            return has(i, j) ? kindsNow[i * MOST_WIDE + j] : NONE;
        }

        int clayOf(int i, int j) {
            return has(i, j) ? clays[i * MOST_WIDE + j] : NONE;
        }

        int sizeOf(int i, int j) {
            return has(i, j) ? sizes[i * MOST_WIDE + j] : NONE;
        }

        int turnOf(int i, int j) {
            return has(i, j) ? turnTenths[i * MOST_WIDE + j] : NONE;
        }

        /** Ten times i and j of a cell that turned. */
        int turnedCell(int k) {
            if (k < 0 || k >= turned) {
                return NONE;
            }
            int here = turnOrder[k];
            return 10 * (here / MOST_WIDE) + here % MOST_WIDE;
        }

        boolean isCold() {
            for (int i = 0; i < cuts; i++) {
                for (int j = 0; j < width; j++) {
                    if (heats[i * MOST_WIDE + j] > COLD_HEAT) {
                        return false;
                    }
                }
            }
            return true;
        }

        boolean isHard(int i, int j, int hard) {
            return has(i, j) && book.kinds.at(kindOf(i, j), Book.HARD) >= hard;
        }

        int cloudOf(int i, int hard) {
            int j = 0;
            while (j < width && isHard(i, j, hard)) {
                j++;
            }
            return j;
        }

        boolean isHardBehind(int i, int from, int hard) {
            for (int j = from; j < width; j++) {
                if (isHard(i, j, hard)) {
                    return true;
                }
            }
            return false;
        }

        int chipFrom(int i, int hard) {
            if (!isHard(i, 0, hard)) {
                return 0;
            }
            int first = i;
            while (first > 0 && isHard(first - 1, 0, hard)) {
                first--;
            }
            int last = i;
            while (last + 1 < cuts && isHard(last + 1, 0, hard)) {
                last++;
            }
            return last - first + 1;
        }
    }

    /** The bar that is worked: its cells, and how far it has bent so far. */
    private static final class Bar {
        final Cells cells;
        private int firstHeat;
        private int leastBend;
        private int greatestBend;

        Bar(Book empty) {
            cells = new Cells(empty);
        }

        void fit(Book told) {
            cells.fit(told, told.bars.at(0, Book.LONG));
            heatTo(0);
        }

        void heatTo(int v) {
            firstHeat = v;
            cells.heatTo(v);
            // One heat and one kind everywhere: it is straight in tenth 0.
            leastBend = 0;
            greatestBend = 0;
        }

        /** How many tenths went till it cracked. */
        int coolFor(int n) {
            int went = 0;
            while (went < n && !cells.isCracked()) {
                cells.coolOnce();
                went++;
                int bend = cells.bendNow();
                leastBend = Math.min(leastBend, bend);
                greatestBend = Math.max(greatestBend, bend);
            }
            return went;
        }

        // Clay changes in tenth 0 alone, so that the same tenths come about once more.
        void goBackTo(int earlier) {
            if (earlier != cells.tenth()) {
                heatTo(firstHeat);
                coolFor(earlier);
            }
        }

        int leastBend() {
            return leastBend;
        }

        int greatestBend() {
            return greatestBend;
        }
    }

    /** Trials of one cut alone: what it would become, were it heated and clayed so. */
    private static final class Trials {
        private static final int TENTHS = 60;
        private static final int BY_HEAT = 0;
        private static final int BY_WATER = 1;
        private static final int BY_MORE_CLAY = 2;
        private static final int BY_LESS_CLAY = 3;
        private static final int CHANGES = 4;
        private static final int STEP = 20;

        private final Cells cut;
        private final int[] clays = new int[Cells.MOST_WIDE];
        private Book book;

        Trials(Book empty) {
            cut = new Cells(empty);
            book = empty;
        }

        void fit(Book told) {
            book = told;
            cut.fit(told, 1);
        }

        /** Tells the clay of the trials, but for those that aim. */
        void setClay(int j, int t) {
            if (j >= 0 && j < clays.length) {
                clays[j] = t;
            }
        }

        private boolean cracksAt(int heat, int water) {
            cut.pourWater(water);
            cut.heatTo(heat);
            boolean moves = true;
            // Where no heat moves, nothing turns or cracks in the tenths that are left.
            for (int t = 0; t < TENTHS && moves && !cut.isCracked(); t++) {
                moves = cut.coolOnce();
            }
            return cut.isCracked();
        }

        private int toldWater() {
            return book.waters.at(0, Book.WATER);
        }

        private void clayWith(int change) {
            int more = change == BY_MORE_CLAY ? 1 : change == BY_LESS_CLAY ? -1 : 0;
            for (int j = 0; j < clays.length; j++) {
                cut.setClay(0, j, kept(clays[j] + more, 0, MOST_CLAY));
            }
        }

        private static int heatWith(int change, int heat) {
            return change == BY_HEAT ? kept(heat - STEP, 0, MOST_HEAT) : heat;
        }

        private int waterWith(int change) {
            int water = toldWater();
            return change == BY_WATER ? kept(water + STEP, 0, MOST_HEAT) : water;
        }

        /** Whether a trial cracks with one change made (NONE: without any). */
        boolean cracksWith(int change, int heat) {
            clayWith(change);
            return cracksAt(heatWith(change, heat), waterWith(change));
        }

        int savingChanges(int heat) {
            int bits = 0;
            for (int change = 0; change < CHANGES; change++) {
                if (!cracksWith(change, heat)) {
                    bits |= 1 << change;
                }
            }
            return bits;
        }

        int cracksOfNine(int change, int heat, int byHeat, int byWater) {
            clayWith(change);
            int aboutHeat = heatWith(change, heat);
            int aboutWater = waterWith(change);
            int cracks = 0;
            for (int h = -1; h <= 1; h++) {
                int heatOff = kept(aboutHeat + h * byHeat, 0, MOST_HEAT);
                for (int w = -1; w <= 1; w++) {
                    int waterOff = kept(aboutWater + w * byWater, 0, MOST_HEAT);
                    if (cracksAt(heatOff, waterOff)) {
                        cracks++;
                    }
                }
            }
            return cracks;
        }

        int bestChange(int heat, int byHeat, int byWater) {
            int least = cracksOfNine(NONE, heat, byHeat, byWater);
            int best = DIDNT;
            for (int change = 0; change < CHANGES; change++) {
                int cracks = cracksOfNine(change, heat, byHeat, byWater);
                if (cracks < least) {
                    least = cracks;
                    best = change;
                }
            }
            return best;
        }

        /** Clay of j times 10 to the j, together; NONE if no clay does it. */
        int leastClay(int heat, int wanted, int hard) {
            int ways = 1 << 2 * cut.width();
            int most = MOST_CLAY * cut.width();
            for (int total = 0; total <= most; total++) {
                for (int way = 0; way < ways; way++) {
                    if (totalOfWay(way) == total && isAimed(way, heat, wanted, hard)) {
                        return tensOfWay(way);
                    }
                }
            }
            return NONE;
        }

        private boolean isAimed(int way, int heat, int wanted, int hard) {
            int useful = usefulClay();
            for (int j = 0; j < cut.width(); j++) {
                int clay = clayOfWay(way, j);
                if (clay > useful) {
                    return false;
                }
                cut.setClay(0, j, clay);
            }
            return !cracksAt(heat, toldWater())
                && cut.cloudOf(0, hard) == wanted
                && !cut.isHardBehind(0, wanted, hard);
        }

        // Clay beyond this shields no more than this does, and so is never the least.
        private int usefulClay() {
            int shield = book.waters.at(0, Book.SHIELD);
            int useful = 0;
            while (useful < MOST_CLAY && shield > 0 && shield * useful < 100) {
                useful++;
            }
            return useful;
        }

        // The edge's clay is the highest digit of a way, so that ways count up from the edge on.
        private int clayOfWay(int way, int j) {
            return way >> 2 * (cut.width() - 1 - j) & MOST_CLAY;
        }

        private int totalOfWay(int way) {
            int total = 0;
            for (int j = 0; j < cut.width(); j++) {
                total += clayOfWay(way, j);
            }
            return total;
        }

        private int tensOfWay(int way) {
            int tens = 0;
            for (int j = cut.width() - 1; j >= 0; j--) {
                tens = tens * 10 + clayOfWay(way, j);
            }
            return tens;
        }

        int lookingSo(int red, int light) {
            int count = 0;
            for (int heat = 0; heat <= MOST_HEAT; heat++) {
                if (book.redOf(heat, light) == red) {
                    count++;
                }
            }
            return count;
        }

        int crackingByEye(int red, int light) {
            clayWith(NONE);
            int water = toldWater();
            int count = 0;
            for (int heat = 0; heat <= MOST_HEAT; heat++) {
                if (book.redOf(heat, light) == red && cracksAt(heat, water)) {
                    count++;
                }
            }
            return count;
        }

        int cloudedByEye(int red, int light, int wanted, int hard) {
            clayWith(NONE);
            int water = toldWater();
            int count = 0;
            for (int heat = 0; heat <= MOST_HEAT; heat++) {
                if (book.redOf(heat, light) == red && !cracksAt(heat, water)
                    && cut.cloudOf(0, hard) == wanted) {
                    count++;
                }
            }
            return count;
        }
    }

    /** Layers of dirt, and carbon, that folding makes even and thin. */
    private static final class Billet {
        private static final int LAYERS = 8;
        private static final int CARBON = 8;
        private static final int CARBON_PART = 50;

        private final int[] dirt = new int[LAYERS];
        private final int[] tried = new int[LAYERS];
        private int carbon;

        void clear() {
            Arrays.fill(dirt, 0);
            carbon = 0;
        }

        boolean has(int layer) {
            return layer >= 0 && layer <= CARBON;
        }

        int at(int layer) {
            if (!has(layer)) {
                return NONE;
            }
            return layer == CARBON ? carbon : dirt[layer];
        }

        void put(int layer, int v) {
            if (layer == CARBON) {
                carbon = v;
            } else if (has(layer)) {
                dirt[layer] = v;
            }
        }

        int foldTimes(int n) {
            for (int k = 0; k < n; k++) {
                foldOver(dirt);
                carbon -= carbon / CARBON_PART;
            }
            return carbon;
        }

        int foldsTillEven(int t) {
            System.arraycopy(dirt, 0, tried, 0, LAYERS);
            for (int folds = 0; folds <= MOST_FOLDS; folds++) {
                if (spread(tried) <= t) {
                    return folds;
                }
                foldOver(tried);
            }
            return NONE;
        }

        // Layer k is written only when layers 2 k and 2 k + 1, never below k, have been read.
        private static void foldOver(int[] layers) {
            int half = layers.length / 2;
            for (int k = 0; k < half; k++) {
                layers[k] = (layers[2 * k] + layers[2 * k + 1]) / 2;
            }
            for (int k = 0; k < half; k++) {
                layers[layers.length - 1 - k] = layers[k];
            }
        }

        private static int spread(int[] layers) {
            int least = MOST_DIRT;
            int greatest = 0;
            for (int k = 0; k < layers.length; k++) {
                least = Math.min(least, layers[k]);
                greatest = Math.max(greatest, layers[k]);
            }
            return greatest - least;
        }
    }

    /** Blades that were learned from, and the way they point. */
    private static final class Blades {
        private static final int MOST = 20;
        private static final int MADE_BY = 3;
        private static final int WAYS = 6;

        private final int[] makings = new int[MOST * MADE_BY];
        private final int[] hows = new int[MOST];
        private final int[] gains = new int[WAYS];
        private int count;

        void clear() {
            count = 0;
        }

        int count() {
            return count;
        }

        boolean isFull() {
            return count >= MOST;
        }

        int add(int heat, int water, int clay, int how) {
            if (!isFull()) {
                makings[count * MADE_BY] = heat;
                makings[count * MADE_BY + 1] = water;
                makings[count * MADE_BY + 2] = clay;
                hows[count] = how;
                count++;
            }
            return count;
        }

        int bestWay() {
            countGains();
            int best = DIDNT;
            int greatest = 0;
            for (int way = 0; way < WAYS; way++) {
                if (gains[way] > greatest) {
                    greatest = gains[way];
                    best = way;
                }
            }
            return best;
        }

        private void countGains() {
            Arrays.fill(gains, 0);
            for (int first = 0; first < count; first++) {
                for (int second = 0; second < count; second++) {
                    int way = wayBetween(first, second);
                    if (way != NONE) {
                        gains[way] += Integer.compare(hows[second], hows[first]);
                    }
                }
            }
        }

        /** The one way in which the second differs from the first; NONE if there isn't just one. */
        private int wayBetween(int first, int second) {
            int way = NONE;
            for (int k = 0; k < MADE_BY; k++) {
                int more = makings[second * MADE_BY + k] - makings[first * MADE_BY + k];
                if (more != 0 && way != NONE) {
                    return NONE;
                }
                if (more != 0) {
                    way = more > 0 ? k : k + MADE_BY;
                }
            }
            return way;
        }
    }
}

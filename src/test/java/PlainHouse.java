import java.util.ArrayList;
import java.util.Arrays;
import java.util.HashMap;
import java.util.List;
import java.util.Map;
import java.util.NoSuchElementException;

/**
 * The document once more, written as straight as it can be and with the library's help, so that
 * TwoMinds can be held against it. It keeps every tenth instead of going it again, fits the pull
 * as the document tells it, runs every trial to its end, and reads tokens off a list.
 */
final class PlainHouse {
    private static final List<String> SORTS =
        List.of("bar", "water", "kind", "turn", "red", "stone", "smith");

    /** A book: per sort its lines, each a list of wholes. */
    private static final class Told {
        final Map<String, List<int[]>> lines = new HashMap<>();

        Told() {
            for (String sort : SORTS) {
                lines.put(sort, new ArrayList<>());
            }
        }

        List<int[]> of(String sort) {
            return lines.get(sort);
        }

        int bar(int k) {
            return of("bar").get(0)[k];
        }

        int water(int k) {
            return of("water").get(0)[k];
        }
    }

    private static final class Fault extends RuntimeException {
        private static final long serialVersionUID = 1L;
        final int number;
        final int place;

        Fault(int number, int place) {
            this.number = number;
            this.place = place;
        }
    }

    private static final class Token {
        final String text;
        final int place;

        Token(String text, int place) {
            this.text = text;
            this.place = place;
        }
    }

    /** The cells behind one tenth. */
    private static final class Moment {
        int[][] heat;
        int[][] kind;
        int[][] turnedIn;
        int crackI = -1;
        int crackJ = -1;
    }

    private final StringBuilder tape = new StringBuilder();
    private Told told;
    private int trouble;
    private int fault;
    private int place;
    private int[][] clay;
    private List<Moment> moments = new ArrayList<>();
    private final List<Integer> led = new ArrayList<>();
    private int[] dirt = new int[9];
    private final List<int[]> blades = new ArrayList<>();

    // ---- the book

    int feed(int... numbers) {
        if (tape.length() + 20 > 700) {
            return -1;
        }
        for (int number : numbers) {
            for (int k = 3; k >= 0; k--) {
                tape.append((char) (number >> 8 * k & 255));
            }
        }
        return tape.length();
    }

    int book(int n) {
        if (n < 0 || n > tape.length()) {
            return no(2);
        }
        String text = tape.substring(0, n);
        tape.setLength(0);
        try {
            told = read(text);
        } catch (Fault f) {
            fault = f.number;
            place = f.place;
            return no(4);
        }
        fault = 0;
        clay = new int[told.bar(0)][told.bar(1)];
        heatBar(0);
        dirt = new int[9];
        blades.clear();
        return ok(told.of("kind").size());
    }

    private static List<Token> tokensOf(String text) {
        List<Token> tokens = new ArrayList<>();
        int at = 0;
        while (at < text.length()) {
            char c = text.charAt(at);
            int to = at + 1;
            if (c == ' ') {
                at++;
                continue;
            }
            if (c >= 'a' && c <= 'z' || c >= '0' && c <= '9') {
                String among = c >= 'a' ? "abcdefghijklmnopqrstuvwxyz" : "0123456789";
                while (to < text.length() && among.indexOf(text.charAt(to)) >= 0) {
                    to++;
                }
            }
            String token = text.substring(at, to);
            tokens.add(new Token(token.matches("[a-z]{1,8}|[0-9]{1,3}|[;,]") ? token : "?", at));
            at = to;
        }
        tokens.add(new Token("", text.length()));
        return tokens;
    }

    private Told read(String text) {
        List<Token> tokens = tokensOf(text);
        Told book = new Told();
        Map<String, Integer> names = new HashMap<>();
        int at = 0;
        while (true) {
            at = readLine(tokens, at, book, names);
            Token token = tokens.get(at);
            if (token.text.equals("")) {
                if (book.of("bar").isEmpty() || book.of("water").isEmpty() || book.of("kind").size() < 2) {
                    throw new Fault(6, token.place);
                }
                return book;
            }
            if (!token.text.equals(";")) {
                throw new Fault(1, token.place);
            }
            at++;
        }
    }

    private static final Map<String, String> FORMS = Map.of(
        "bar", "long 1-8 wide 2-5",
        "water", "0-99 pulls 1-50 shield 0-60 flow 0-12 swell 0-50",
        "kind", "NEW hard 0-99 room 0-50 bears 1-999",
        "turn", "OLD below 100-900 drop 0-400",
        "red", "NEW 100-999 to former-999",
        "stone", "NEW days 1-20 shows SIGNS",
        "smith", "NEW SHARES");
    private static final Map<String, Integer> ROOM = Map.of(
        "bar", 1, "water", 1, "kind", 5, "turn", 6, "red", 6, "stone", 6, "smith", 5);

    private int readLine(List<Token> tokens, int from, Told book, Map<String, Integer> names) {
        int at = from;
        Token first = tokens.get(at++);
        if (!SORTS.contains(first.text)) {
            throw new Fault(1, first.place);
        }
        if (book.of(first.text).size() == ROOM.get(first.text)) {
            throw new Fault(ROOM.get(first.text) == 1 ? 3 : 5, first.place);
        }
        List<Integer> wholes = new ArrayList<>();
        for (String part : FORMS.get(first.text).split(" ")) {
            Token token = tokens.get(at++);
            if (part.equals("NEW") || part.equals("OLD")) {
                if (!token.text.matches("[a-z]+") || SORTS.contains(token.text)) {
                    throw new Fault(1, token.place);
                }
                if (part.equals("OLD")) {
                    if (names.getOrDefault(token.text, -1) < 1) {
                        throw new Fault(2, token.place);
                    }
                    wholes.add(names.get(token.text));
                } else {
                    if (names.containsKey(token.text)) {
                        throw new Fault(3, token.place);
                    }
                    names.put(token.text, first.text.equals("kind") ? book.of("kind").size() : -1);
                }
            } else if (part.equals("SIGNS") || part.equals("SHARES")) {
                boolean signs = part.equals("SIGNS");
                List<Integer> list = new ArrayList<>();
                while (true) {
                    int whole = whole(token, signs ? 0 : 1, signs ? 7 : 9);
                    if (signs && list.contains(whole)) {
                        throw new Fault(3, token.place);
                    }
                    if (!signs && list.size() == 8) {
                        throw new Fault(5, token.place);
                    }
                    list.add(whole);
                    if (!tokens.get(at).text.equals(",")) {
                        break;
                    }
                    token = tokens.get(at + 1);
                    at += 2;
                }
                wholes.addAll(list);
            } else if (part.contains("-")) {
                String least = part.substring(0, part.indexOf('-'));
                int low = least.equals("former") ? wholes.get(wholes.size() - 1) : Integer.parseInt(least);
                wholes.add(whole(token, low, Integer.parseInt(part.substring(part.indexOf('-') + 1))));
            } else if (!token.text.equals(part)) {
                throw new Fault(1, token.place);
            }
        }
        book.of(first.text).add(wholes.stream().mapToInt(w -> w).toArray());
        return at;
    }

    private static int whole(Token token, int least, int most) {
        if (!token.text.matches("[0-9]+")) {
            throw new Fault(1, token.place);
        }
        int whole = Integer.parseInt(token.text);
        if (whole < least || whole > most) {
            throw new Fault(4, token.place);
        }
        return whole;
    }

    int fault() {
        return fault;
    }

    int where() {
        return trouble == 4 ? place : -1;
    }

    // ---- the bar

    private void heatBar(int v) {
        moments = new ArrayList<>();
        moments.add(heated(told.bar(0), v));
        led.clear();
    }

    private Moment heated(int cuts, int v) {
        Moment m = new Moment();
        m.heat = new int[cuts][told.bar(1)];
        m.kind = new int[cuts][told.bar(1)];
        m.turnedIn = new int[cuts][told.bar(1)];
        for (int i = 0; i < cuts; i++) {
            Arrays.fill(m.heat[i], v);
            Arrays.fill(m.turnedIn[i], -2);
        }
        return m;
    }

    private Moment now() {
        return moments.get(moments.size() - 1);
    }

    private Moment after(Moment m, int tenth, int water, int[][] clays, List<Integer> turns) {
        int cuts = m.heat.length;
        int wide = told.bar(1);
        Moment n = heated(cuts, 0);
        int[][] beside = {{-1, 0}, {1, 0}, {0, -1}, {0, 1}};
        for (int i = 0; i < cuts; i++) {
            for (int j = 0; j < wide; j++) {
                int own = m.heat[i][j];
                int heat = own;
                for (int[] step : beside) {
                    int a = i + step[0];
                    int b = j + step[1];
                    if (a >= 0 && a < cuts && b >= 0 && b < wide) {
                        heat += told.water(3) * (m.heat[a][b] - own) / 100;
                    }
                }
                int fall = told.water(1) * (own - water) / 100;
                fall = fall * Math.max(0, 100 - told.water(2) * clays[i][j]) / 100;
                fall = fall / (j + 1);
                n.heat[i][j] = heat - fall;
                n.kind[i][j] = m.kind[i][j];
                n.turnedIn[i][j] = m.turnedIn[i][j];
                int fell = own - n.heat[i][j];
                if (m.kind[i][j] == 0 && fell > 0) {
                    for (int[] turn : told.of("turn")) {
                        if (turn[1] > n.heat[i][j] && turn[1] <= own && turn[2] <= fell) {
                            n.kind[i][j] = turn[0];
                            n.turnedIn[i][j] = tenth;
                            turns.add(10 * i + j);
                            break;
                        }
                    }
                }
            }
        }
        for (int i = cuts - 1; i >= 0; i--) {
            for (int j = wide - 1; j >= 0; j--) {
                long bears = told.of("kind").get(n.kind[i][j])[2];
                if (Math.abs(pullOf(n, i, j)) > bears * wholePull()) {
                    n.crackI = i;
                    n.crackJ = j;
                }
            }
        }
        return n;
    }

    private int sizeOf(Moment m, int i, int j) {
        return told.water(4) * m.heat[i][j] / 100 + told.of("kind").get(m.kind[i][j])[1];
    }

    private int x(int j) {
        return 2 * j - (told.bar(1) - 1);
    }

    private int allSquared() {
        int sum = 0;
        for (int j = 0; j < told.bar(1); j++) {
            sum += x(j) * x(j);
        }
        return sum;
    }

    private long wholePull() {
        return (long) told.bar(1) * allSquared();
    }

    private int curveOf(Moment m, int i) {
        int sum = 0;
        for (int j = 0; j < told.bar(1); j++) {
            sum += sizeOf(m, i, j) * x(j);
        }
        return sum;
    }

    private int bendOf(Moment m) {
        int sum = 0;
        for (int i = 0; i < m.heat.length; i++) {
            sum += curveOf(m, i);
        }
        return sum;
    }

    private long pullOf(Moment m, int i, int j) {
        long total = 0;
        for (int k = 0; k < told.bar(1); k++) {
            total += sizeOf(m, i, k);
        }
        return sizeOf(m, i, j) * wholePull() - total * allSquared()
            - (long) curveOf(m, i) * x(j) * told.bar(1);
    }

    private boolean hasCell(int i, int j) {
        return told != null && i >= 0 && i < told.bar(0) && j >= 0 && j < told.bar(1);
    }

    boolean heat(int v) {
        if (told == null) {
            return no(1) == 0;
        }
        if (v < 0 || v > 999) {
            return no(2) == 0;
        }
        heatBar(v);
        return ok(0) == 0;
    }

    boolean clay(int i, int j, int t) {
        if (!hasCell(i, j)) {
            return no(1) == 0;
        }
        if (t < 0 || t > 3) {
            return no(2) == 0;
        }
        if (moments.size() > 1) {
            return no(5) == 0;
        }
        clay[i][j] = t;
        return ok(0) == 0;
    }

    int go(int n) {
        if (told == null) {
            return no(1);
        }
        if (n < 1 || n > 60) {
            return no(2);
        }
        if (moments.size() - 1 + n > 400) {
            return no(3);
        }
        if (now().crackI >= 0) {
            return no(5);
        }
        int went = 0;
        while (went < n && now().crackI < 0) {
            moments.add(after(now(), moments.size(), told.water(0), clay, led));
            went++;
        }
        return ok(went);
    }

    boolean again(int tenth) {
        if (told == null) {
            return no(1) == 0;
        }
        if (tenth < 0 || tenth > moments.size() - 1) {
            return no(2) == 0;
        }
        moments = new ArrayList<>(moments.subList(0, tenth + 1));
        led.removeIf(c -> now().turnedIn[c / 10][c % 10] == -2);
        return ok(0) == 0;
    }

    int cell(int i, int j, int what) {
        if (!hasCell(i, j) || what < 0 || what > 4) {
            return -1;
        }
        int[] all = {now().heat[i][j], now().kind[i][j], clay[i][j], sizeOf(now(), i, j), now().turnedIn[i][j]};
        return all[what];
    }

    long pull(int i, int j) {
        return hasCell(i, j) ? ok(0) + pullOf(now(), i, j) : no(1) + 1 + Long.MIN_VALUE;
    }

    int curve(int i) {
        return hasCell(i, 0) ? ok(curveOf(now(), i)) : no(1) + 1 + Integer.MIN_VALUE;
    }

    int bend(int what) {
        if (told == null || what < 0 || what > 2) {
            return no(1) + 1 + Integer.MIN_VALUE;
        }
        int least = Integer.MAX_VALUE;
        int most = Integer.MIN_VALUE;
        for (Moment m : moments) {
            least = Math.min(least, bendOf(m));
            most = Math.max(most, bendOf(m));
        }
        return ok(what == 0 ? bendOf(now()) : what == 1 ? least : most);
    }

    int crack(int what) {
        if (told == null || what < 0 || what > 2) {
            return no(1);
        }
        if (now().crackI < 0) {
            return ok(-2);
        }
        return ok(what == 0 ? moments.size() - 1 : what == 1 ? now().crackI : now().crackJ);
    }

    int cold() {
        if (told == null) {
            return no(1);
        }
        return ok(Arrays.stream(now().heat).flatMapToInt(Arrays::stream).allMatch(h -> h <= 99) ? 1 : 0);
    }

    private boolean isHard(Moment m, int i, int j, int hard) {
        return told.of("kind").get(m.kind[i][j])[0] >= hard;
    }

    private int cloudOf(Moment m, int i, int hard) {
        for (int j = 0; j < told.bar(1); j++) {
            if (!isHard(m, i, j, hard)) {
                return j;
            }
        }
        return told.bar(1);
    }

    int cloud(int i, int hard) {
        if (!hasCell(i, 0)) {
            return no(1);
        }
        return hard < 0 || hard > 99 ? no(2) : ok(cloudOf(now(), i, hard));
    }

    int chip(int i, int hard) {
        if (!hasCell(i, 0)) {
            return no(1);
        }
        if (hard < 0 || hard > 99) {
            return no(2);
        }
        StringBuilder edge = new StringBuilder();
        for (int k = 0; k < told.bar(0); k++) {
            edge.append(isHard(now(), k, 0, hard) ? '#' : '.');
        }
        if (edge.charAt(i) == '.') {
            return ok(0);
        }
        int from = edge.lastIndexOf(".", i);
        int to = edge.indexOf(".", i);
        return ok((to < 0 ? told.bar(0) : to) - from - 1);
    }

    // ---- clay, odds, why

    private Moment trial(int heat, int water, int[] clays) {
        Moment m = heated(1, heat);
        for (int t = 1; t <= 60 && m.crackI < 0; t++) {
            m = after(m, t, water, new int[][] {clays}, new ArrayList<>());
        }
        return m;
    }

    int aim(int heat, int width, int hard) {
        if (told == null) {
            return no(1);
        }
        if (heat < 0 || heat > 999 || width < 0 || width > told.bar(1) || hard < 0 || hard > 99) {
            return no(2);
        }
        int wide = told.bar(1);
        int[] best = null;
        int least = Integer.MAX_VALUE;
        int[] clays = new int[wide];
        while (clays != null) {
            int total = Arrays.stream(clays).sum();
            if (total < least) {
                Moment m = trial(heat, told.water(0), clays);
                boolean fits = m.crackI < 0;
                for (int j = 0; j < wide; j++) {
                    fits &= isHard(m, 0, j, hard) == j < width;
                }
                if (fits) {
                    least = total;
                    best = clays.clone();
                }
            }
            int j = wide - 1;
            while (j >= 0 && clays[j] == 3) {
                clays[j--] = 0;
            }
            if (j < 0) {
                clays = null;
            } else {
                clays[j]++;
            }
        }
        if (best == null) {
            return no(6);
        }
        int answer = 0;
        int ten = 1;
        for (int c : best) {
            answer += c * ten;
            ten *= 10;
        }
        return ok(answer);
    }

    private static int within(int v) {
        return Math.max(0, Math.min(999, v));
    }

    private int scattered(int heat, int water, int[] clays, int byHeat, int byWater) {
        int cracks = 0;
        for (int h : new int[] {within(heat - byHeat), heat, within(heat + byHeat)}) {
            for (int w : new int[] {within(water - byWater), water, within(water + byWater)}) {
                cracks += trial(h, w, clays).crackI >= 0 ? 1 : 0;
            }
        }
        return cracks;
    }

    private int[] clayed(int more) {
        return Arrays.stream(clay[0]).map(c -> Math.max(0, Math.min(3, c + more))).toArray();
    }

    private static boolean badScatter(int heat, int byHeat, int byWater) {
        return heat < 0 || heat > 999 || byHeat < 0 || byHeat > 99 || byWater < 0 || byWater > 99;
    }

    int scatter(int heat, int byHeat, int byWater) {
        if (told == null) {
            return no(1);
        }
        if (badScatter(heat, byHeat, byWater)) {
            return no(2);
        }
        return ok(scattered(heat, told.water(0), clay[0], byHeat, byWater));
    }

    int lowers(int heat, int byHeat, int byWater) {
        if (told == null) {
            return no(1);
        }
        if (badScatter(heat, byHeat, byWater)) {
            return no(2);
        }
        int w = told.water(0);
        int[] odds = {
            scattered(within(heat - 20), w, clay[0], byHeat, byWater),
            scattered(heat, within(w + 20), clay[0], byHeat, byWater),
            scattered(heat, w, clayed(1), byHeat, byWater),
            scattered(heat, w, clayed(-1), byHeat, byWater)};
        int least = Arrays.stream(odds).min().getAsInt();
        if (least >= scattered(heat, w, clay[0], byHeat, byWater)) {
            return ok(-2);
        }
        int k = 0;
        while (odds[k] != least) {
            k++;
        }
        return ok(k);
    }

    int why(int heat) {
        if (told == null) {
            return no(1);
        }
        if (heat < 0 || heat > 999) {
            return no(2);
        }
        int w = told.water(0);
        if (trial(heat, w, clay[0]).crackI < 0) {
            return no(5);
        }
        int bits = trial(within(heat - 20), w, clay[0]).crackI < 0 ? 1 : 0;
        bits += trial(heat, within(w + 20), clay[0]).crackI < 0 ? 2 : 0;
        bits += trial(heat, w, clayed(1)).crackI < 0 ? 4 : 0;
        bits += trial(heat, w, clayed(-1)).crackI < 0 ? 8 : 0;
        return ok(bits);
    }

    // ---- folds

    boolean lay(int layer, int v) {
        if (told == null || layer < 0 || layer > 8) {
            return no(1) == 0;
        }
        if (v < 0 || v > 9999) {
            return no(2) == 0;
        }
        dirt[layer] = v;
        return ok(0) == 0;
    }

    private static int[] folded(int[] d) {
        int[] n = new int[9];
        for (int k = 0; k < 4; k++) {
            n[k] = (d[2 * k] + d[2 * k + 1]) / 2;
            n[7 - k] = n[k];
        }
        n[8] = d[8] - d[8] / 50;
        return n;
    }

    int fold(int n) {
        if (told == null) {
            return no(1);
        }
        if (n < 1 || n > 20) {
            return no(2);
        }
        for (int k = 0; k < n; k++) {
            dirt = folded(dirt);
        }
        return ok(dirt[8]);
    }

    int layer(int layer) {
        return told == null || layer < 0 || layer > 8 ? -1 : dirt[layer];
    }

    int even(int t) {
        if (told == null) {
            return no(1);
        }
        if (t < 0 || t > 9999) {
            return no(2);
        }
        int[] d = dirt;
        for (int n = 0; n <= 20; n++) {
            int[] sorted = Arrays.copyOf(d, 8);
            Arrays.sort(sorted);
            if (sorted[7] - sorted[0] <= t) {
                return ok(n);
            }
            d = folded(d);
        }
        return no(6);
    }

    // ---- colours, stones, smiths

    private int colourOf(int heat, int light) {
        List<int[]> reds = told.of("red");
        for (int r = 0; r < reds.size(); r++) {
            if (heat + 15 * light >= reds.get(r)[0] && heat + 15 * light <= reds.get(r)[1]) {
                return r;
            }
        }
        return -2;
    }

    int colour(int heat, int light) {
        if (told == null) {
            return no(1);
        }
        return heat < 0 || heat > 999 || light < 0 || light > 3 ? no(2) : ok(colourOf(heat, light));
    }

    int eye(int colour, int light, int what, int width, int hard) {
        if (told == null || colour < 0 || colour >= told.of("red").size() || what < 0 || what > 2) {
            return no(1);
        }
        if (light < 0 || light > 3 || width < 0 || width > told.bar(1) || hard < 0 || hard > 99) {
            return no(2);
        }
        int[] counts = new int[3];
        for (int heat = 0; heat <= 999; heat++) {
            if (colourOf(heat, light) == colour) {
                counts[0]++;
                if (what > 0) {
                    Moment m = trial(heat, told.water(0), clay[0]);
                    counts[1] += m.crackI >= 0 ? 1 : 0;
                    counts[2] += m.crackI < 0 && cloudOf(m, 0, hard) == width ? 1 : 0;
                }
            }
        }
        return ok(counts[what]);
    }

    private int[] shown(int signs) {
        List<int[]> stones = told.of("stone");
        int[] best = null;
        for (int some = (1 << stones.size()) - 1; some >= 0; some--) {
            int days = 0;
            int shows = 0;
            for (int s = 0; s < stones.size(); s++) {
                if ((some & 1 << s) != 0) {
                    days += stones.get(s)[0];
                    for (int k = 1; k < stones.get(s).length; k++) {
                        shows |= 1 << stones.get(s)[k];
                    }
                }
            }
            if ((shows & signs) == signs && (best == null || days <= best[0])) {
                best = new int[] {days, some};
            }
        }
        return best;
    }

    int polish(int signs) {
        return shownAs(signs, 0);
    }

    int stones(int signs) {
        return shownAs(signs, 1);
    }

    private int shownAs(int signs, int k) {
        if (told == null) {
            return no(1);
        }
        if (signs < 0 || signs > 255) {
            return no(2);
        }
        int[] best = shown(signs);
        return best == null ? no(6) : ok(best[k]);
    }

    private long productOf(int[] smith, int signs) {
        long product = 1;
        for (int s = 0; s < smith.length; s++) {
            product *= (signs & 1 << s) != 0 ? smith[s] : 1;
        }
        return product;
    }

    int whose(int signs) {
        if (told == null || told.of("smith").isEmpty()) {
            return no(1);
        }
        if (signs < 0 || signs > 255) {
            return no(2);
        }
        List<int[]> smiths = told.of("smith");
        int best = 0;
        for (int s = 1; s < smiths.size(); s++) {
            if (productOf(smiths.get(s), signs) > productOf(smiths.get(best), signs)) {
                best = s;
            }
        }
        return ok(best);
    }

    long odds(int smith, int signs) {
        if (told == null || smith < -1 || smith >= told.of("smith").size()) {
            return no(1) + 1 + Long.MIN_VALUE;
        }
        if (signs < 0 || signs > 255) {
            return no(2) + 1 + Long.MIN_VALUE;
        }
        long sum = ok(0);
        for (int s = 0; s < told.of("smith").size(); s++) {
            sum += smith == s || smith == -1 ? productOf(told.of("smith").get(s), signs) : 0;
        }
        return sum;
    }

    // ---- learning

    int learn(int heat, int water, int clayed, int how) {
        if (told == null) {
            return no(1);
        }
        if (heat != within(heat) || water != within(water) || clayed < 0 || clayed > 3 || how < 0 || how > 2) {
            return no(2);
        }
        if (blades.size() == 20) {
            return no(3);
        }
        blades.add(new int[] {heat, water, clayed, how});
        return ok(blades.size());
    }

    int next() {
        if (told == null) {
            return no(1);
        }
        int best = -2;
        int greatest = 0;
        for (int way = 0; way < 6; way++) {
            int k = way % 3;
            int sum = 0;
            for (int[] a : blades) {
                for (int[] b : blades) {
                    boolean alone = true;
                    for (int o = 0; o < 3; o++) {
                        alone &= o == k || a[o] == b[o];
                    }
                    if (alone && (way < 3 ? b[k] > a[k] : b[k] < a[k])) {
                        sum += b[3] > a[3] ? 1 : b[3] < a[3] ? -1 : 0;
                    }
                }
            }
            if (sum > greatest) {
                greatest = sum;
                best = way;
            }
        }
        return ok(best);
    }

    int led(int i) {
        if (i < 0 || i >= led.size()) {
            throw new NoSuchElementException();
        }
        return led.get(i);
    }

    int size(int what) {
        if (what < 0 || what > 12) {
            return -1;
        }
        if (what == 11) {
            return tape.length();
        }
        if (told == null) {
            return 0;
        }
        int[] all = {told.bar(0), told.bar(1), told.of("kind").size(), told.of("turn").size(),
            told.of("red").size(), told.of("stone").size(), told.of("smith").size(),
            moments.size() - 1, now().crackI >= 0 ? 1 : 0, led.size(), blades.size(), 0, (int) wholePull()};
        return all[what];
    }

    int trouble() {
        return trouble;
    }

    private int no(int number) {
        trouble = number;
        return -1;
    }

    private int ok(int answer) {
        trouble = 0;
        return answer;
    }
}

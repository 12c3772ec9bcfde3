import java.util.ArrayList;
import java.util.List;
import java.util.Random;

/** Makes texts of books: two of three are whole, the others have something changed in them. */
final class BookMaker {
    private static final String[] CHANGES = {"bar", "water", "kind", "turn", "red", "stone", "smith", "a", "b",
        "0", "7", "8", "9", "10", "100", "999", "1000", ";", ",", "?", " ", "hard", "abcdefghi", "to", "x1"};

    private final Random random;
    private final List<String> tokens = new ArrayList<>();
    private int names;

    BookMaker(Random random) {
        this.random = random;
    }

    String text() {
        boolean whole = random.nextInt(3) > 0;
        make();
        for (int k = 0; !whole && k < 1 + random.nextInt(2); k++) {
            change();
        }
        StringBuilder text = new StringBuilder();
        for (int k = 0; k < tokens.size(); k++) {
            boolean parted = k > 0 && sortOf(tokens.get(k)) == sortOf(tokens.get(k - 1));
            text.append(parted || random.nextInt(3) > 0 ? " " : "").append(tokens.get(k));
        }
        return text.substring(0, Math.min(700, text.length()));
    }

    private static int sortOf(String token) {
        char c = token.charAt(0);
        return Character.isLetter(c) ? 1 : Character.isDigit(c) ? 2 : 3;
    }

    private void change() {
        int at = random.nextInt(tokens.size());
        switch (random.nextInt(4)) {
            case 0:
                tokens.set(at, CHANGES[random.nextInt(CHANGES.length)]);
                break;
            case 1:
                tokens.add(at, CHANGES[random.nextInt(CHANGES.length)]);
                break;
            case 2:
                if (tokens.size() > 1) {
                    tokens.remove(at);
                }
                break;
            default:
                if (at > 0) {
                    tokens.subList(at, tokens.size()).clear();
                }
        }
    }

    private void make() {
        if (random.nextInt(20) > 0) {
            line("bar", "long", n(1, 8), "wide", n(2, 5));
        }
        if (random.nextInt(20) > 0) {
            line("water", n(0, 99), "pulls", n(1, 50), "shield", n(0, 60), "flow", n(0, 12), "swell", n(0, 50));
        }
        int kinds = 2 + random.nextInt(random.nextInt(10) == 0 ? 5 : 3);
        int most = random.nextBoolean() ? 30 : 300;
        for (int k = 0; k < kinds; k++) {
            line("kind", "k" + letter(k), "hard", n(0, 99), "room", n(0, 50), "bears", n(1, most));
        }
        for (int k = random.nextInt(random.nextInt(10) == 0 ? 9 : 5); k > 0; k--) {
            String kind = "k" + letter(random.nextInt(15) == 0 ? 0 : 1 + random.nextInt(kinds - 1));
            line("turn", kind, "below", n(100, 900), "drop", n(0, random.nextBoolean() ? 30 : 400));
        }
        for (int k = random.nextInt(random.nextInt(10) == 0 ? 9 : 4); k > 0; k--) {
            int from = 100 + random.nextInt(850);
            line("red", name(), "" + from, "to", n(from, Math.min(999, from + 250)));
        }
        for (int k = random.nextInt(random.nextInt(10) == 0 ? 9 : 5); k > 0; k--) {
            line("stone", name(), "days", n(1, random.nextBoolean() ? 4 : 20), "shows");
            list(0, 7, true);
        }
        for (int k = random.nextInt(random.nextInt(10) == 0 ? 8 : 4); k > 0; k--) {
            line("smith", name());
            list(1, 9, false);
        }
    }

    private void line(String... parts) {
        if (!tokens.isEmpty()) {
            tokens.add(";");
        }
        tokens.addAll(List.of(parts));
    }

    private void list(int least, int most, boolean unlike) {
        List<String> told = new ArrayList<>();
        for (int k = random.nextInt(random.nextInt(10) == 0 ? 10 : 4); k >= 0; k--) {
            String n = n(least, most);
            if (!unlike || !told.contains(n) || random.nextInt(20) == 0) {
                told.add(n);
            }
        }
        tokens.add(told.get(0));
        for (int k = 1; k < told.size(); k++) {
            tokens.add(",");
            tokens.add(told.get(k));
        }
    }

    private String name() {
        String[] prefix = {"n", "long", "swell", "nnnnnnn"};
        return random.nextInt(30) == 0 ? "ka" : prefix[random.nextInt(4)] + letter(names++);
    }

    private static char letter(int k) {
        return (char) ('a' + k % 26);
    }

    private String n(int least, int most) {
        int edge = random.nextInt(10);
        return "" + (edge == 0 ? least : edge == 1 ? most : least + random.nextInt(most - least + 1));
    }
}

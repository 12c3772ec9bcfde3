import java.io.IOException;
import java.nio.file.Files;
import java.nio.file.Path;
import java.util.ArrayList;
import java.util.List;
import java.util.regex.Matcher;
import java.util.regex.Pattern;

/** README.md's example is the code that runs here, and answers what its comments say. */
public final class ReadmeTest {
    private static final Check CHECK = new Check("ReadmeTest");
    private static final Pattern SAID = Pattern.compile("^say\\(.*\\); *// (-?\\d+)\\b.*$");

    private static final List<Long> ANSWERS = new ArrayList<>();

    public static void main(String[] args) throws IOException {
        example();
        List<String> lines = between("src/test/java/ReadmeTest.java", "// example", "// end");
        CHECK.yes("README.md shows the example that runs here",
            lines.equals(between("README.md", "```java", "```")));
        answers(lines);
        everyCallIsTold();
        CHECK.end();
    }

    private static void example() {
        // example
        String text = "bar long 2 wide 3; water 20 pulls 40 shield 30 flow 5 swell 10;"
            + "kind soft hard 20 room 0 bears 9; kind mid hard 50 room 8 bears 6;"
            + "kind edge hard 90 room 20 bears 6;"
            + "turn edge below 700 drop 150; turn mid below 600 drop 30;"
            + "red dark 600 to 749; red bright 750 to 900;"
            + "stone coarse days 3 shows 0, 1; stone fine days 5 shows 1, 2, 3;"
            + "smith old 3, 1, 2; smith young 1, 4";
        TwoMinds house = new TwoMinds();
        for (int at = 0; at < text.length(); at += 20) {
            int[] five = new int[5]; // four bytes each, the highest first
            for (int k = 0; k < 20; k++) {
                five[k / 4] = five[k / 4] << 8 | (at + k < text.length() ? text.charAt(at + k) : ' ');
            }
            house.feed(five[0], five[1], five[2], five[3], five[4]);
        }
        say(house.book(text.length())); // 3 kinds; NONE with a fault: fault() and where() tell it

        house.heat(850);                // the bar has one heat, tenth 0
        for (int i = 0; i < 2; i++) {
            house.clay(i, 1, 1);        // clay 1 in the middle
            house.clay(i, 2, 2);        // clay 2 at the back
        }
        say(house.go(60));              // 9 tenths went, then it cracked
        say(house.crack(2));            // 1 across: in the middle
        say(house.cell(0, 0, 1));       // 2: the edge is of the kind 'edge'
        say(house.why(850));            // 4: bit 2, it wouldn't with 1 more clay everywhere
        say(house.aim(850, 1, 90));     // 10: clay 1 in the middle alone makes just the edge that hard

        house.again(0);                 // back to tenth 0: clay may be changed
        house.clay(0, 2, 0);
        house.clay(1, 2, 0);
        say(house.go(60));              // 60
        say(house.crack(0));            // -2: it didn't
        say(house.cloud(0, 90));        // 1 cell from the edge on is hard
        say(house.chip(0, 90));         // 2: a chip runs along the whole edge
        say(house.bend(2));             // 88: so much the back was the longer, at most
        say(house.aim(850, 3, 90));     // -1: refused,
        say(house.trouble());           // 6: there is none

        say(house.colour(740, 1));      // 1: by light 1 it looks bright
        say(house.polish(7));           // 8 days show the signs 0, 1 and 2,
        say(house.stones(7));           // 3: by the stones 0 and 1
        say(house.whose(3));            // 1: by the signs 0 and 1 it is the young smith's
        // end
    }

    private static void say(long answer) {
        ANSWERS.add(answer);
    }

    private static void answers(List<String> lines) {
        int said = 0;
        for (String line : lines) {
            Matcher m = SAID.matcher(line);
            if (m.matches() && said < ANSWERS.size()) {
                CHECK.due(line, ANSWERS.get(said), Long.parseLong(m.group(1)));
                said++;
            }
        }
        CHECK.due("lines that say an answer", said, ANSWERS.size());
    }

    private static void everyCallIsTold() throws IOException {
        String readme = Files.readString(Path.of("README.md"));
        for (java.lang.reflect.Method m : TwoMinds.class.getDeclaredMethods()) {
            if (java.lang.reflect.Modifier.isPublic(m.getModifiers())) {
                CHECK.yes("README.md tells of " + m.getName(), readme.contains("`" + m.getName() + "("));
            }
        }
    }

    /** The lines between two lines, without the indent of the first of them. */
    private static List<String> between(String file, String first, String last) throws IOException {
        List<String> lines = new ArrayList<>();
        boolean within = false;
        int indent = 0;
        for (String line : Files.readAllLines(Path.of(file))) {
            if (within && line.strip().equals(last)) {
                return lines;
            }
            if (within) {
                lines.add(line.isBlank() ? "" : line.substring(Math.min(indent, line.length())));
            }
            if (!within && line.strip().equals(first)) {
                within = true;
                indent = line.indexOf(first);
            }
        }
        return lines;
    }
}

import java.io.IOException;
import java.nio.file.Files;
import java.nio.file.Path;
import java.util.NoSuchElementException;

/** What the tests share: feeding texts, and counting the answers that are not as due. */
final class Check {
    private static final Path DOCUMENT = Path.of("../shared/DOC.md");

    private final String test;
    private String document = "";
    private String sentence = "";
    private int wrong;

    Check(String test) {
        this.test = test;
    }

    void due(String what, long got, long want) {
        if (got != want) {
            wrong++;
            System.out.println(test + ": " + sentence + what + " answered " + got + ", due is " + want);
        }
    }

    /** The words of the document that the checks behind this call hold; they must stand there. */
    void says(String words) {
        sentence = "'" + words + "': ";
        if (document.isEmpty()) {
            try {
                document = plain(Files.readString(DOCUMENT));
            } catch (IOException e) {
                document = "?";
            }
        }
        if (document.length() > 1) {
            yes("the document says so", document.contains(plain(words)));
        }
    }

    private static String plain(String text) {
        return text.replaceAll("\\s+", " ").trim();
    }

    void yes(String what, boolean got) {
        due(what, got ? 1 : 0, 1);
    }

    /** An answer together with what trouble() says behind it. */
    void due(String what, TwoMinds x, long got, long want, int trouble) {
        due(what, got, want);
        due("trouble() behind " + what, x.trouble(), trouble);
    }

    void due(String what, TwoMinds x, boolean got, boolean want, int trouble) {
        due(what, x, got ? 1 : 0, want ? 1 : 0, trouble);
    }

    void noneLed(TwoMinds x, int i) {
        boolean thrown = false;
        try {
            x.led(i);
        } catch (NoSuchElementException e) {
            thrown = true;
        }
        yes("led(" + i + ") throws NoSuchElementException", thrown);
    }

    void end() {
        end(false);
    }

    void end(boolean quiet) {
        if (wrong != 0) {
            System.out.println(test + ": " + wrong + " answers are not as due");
            System.exit(1);
        }
        if (!quiet) {
            System.out.println(test + ": all answers are as due");
        }
    }

    /** Feeds a text, padded with blanks. */
    static int feed(TwoMinds x, String text) {
        int tape = 0;
        for (int at = 0; at < text.length(); at += 20) {
            tape = x.feed(number(text, at), number(text, at + 4), number(text, at + 8),
                number(text, at + 12), number(text, at + 16));
        }
        return tape;
    }

    static int book(TwoMinds x, String text) {
        feed(x, text);
        return x.book(text.length());
    }

    static TwoMinds house(String text) {
        TwoMinds x = new TwoMinds();
        if (book(x, text) < 2) {
            throw new IllegalStateException("fault " + x.fault() + " at " + x.where() + " in " + text);
        }
        return x;
    }

    private static int number(String text, int at) {
        int number = 0;
        for (int k = at; k < at + 4; k++) {
            number = number << 8 | (k < text.length() ? text.charAt(k) & 255 : 32);
        }
        return number;
    }
}

import java.io.IOException;
import java.lang.reflect.Array;
import java.lang.reflect.Field;
import java.lang.reflect.Method;
import java.lang.reflect.Modifier;
import java.nio.file.Files;
import java.nio.file.Path;
import java.util.ArrayList;
import java.util.Arrays;
import java.util.Collections;
import java.util.IdentityHashMap;
import java.util.NoSuchElementException;
import java.util.Random;
import java.util.Set;
import java.util.TreeSet;

/** The face of the class, what of LANGUAGE.md can be seen from here, and calls with any numbers at all. */
public final class FaceTest {
    private static final String[] FACE = {"again 1", "aim 3", "bend 1", "book 1", "cell 3", "chip 2", "clay 3",
        "cloud 2", "cold 0", "colour 2", "crack 1", "curve 1", "even 1", "eye 5", "fault 0", "feed 5", "fold 1",
        "go 1", "heat 1", "lay 2", "layer 1", "learn 4", "led 1", "lowers 3", "next 0", "odds 2", "polish 1",
        "pull 2", "scatter 3", "size 1", "stones 1", "trouble 0", "where 0", "whose 1", "why 1"};
    private static final String[] BANNED = {"catch", "finally", "->", "::", "synchronized", "assert ", "System.out",
        "currentTimeMillis", "nanoTime", "java.util.Random", "Exact(", "String.format", "instanceof", "import static"};
    private static final int[] NUMBERS = {Integer.MIN_VALUE, -1, 0, 1, 2, 3, 4, 5, 7, 8, 20, 60, 99, 255, 500, 900,
        999, 1000, Integer.MAX_VALUE};

    private static final Check CHECK = new Check("FaceTest");

    public static void main(String[] args) throws IOException {
        face();
        source();
        anyNumbers();
        roomOfOne();
        CHECK.end();
    }

    private static void face() {
        CHECK.yes("the class is public and final",
            Modifier.isPublic(TwoMinds.class.getModifiers()) && Modifier.isFinal(TwoMinds.class.getModifiers()));
        TreeSet<String> open = new TreeSet<>();
        TreeSet<String> names = new TreeSet<>();
        for (Method m : TwoMinds.class.getDeclaredMethods()) {
            if (!Modifier.isPrivate(m.getModifiers())) {
                open.add(m.getName() + " " + m.getParameterCount());
                names.add(m.getName());
            }
        }
        CHECK.yes("the face is the document's: " + open, open.equals(new TreeSet<>(Arrays.asList(FACE))));
        closed(TwoMinds.class, names);
        for (Class<?> inner : TwoMinds.class.getDeclaredClasses()) {
            CHECK.yes(inner + " is static", Modifier.isStatic(inner.getModifiers()));
            closed(inner, names);
        }
        for (Field f : TwoMinds.class.getDeclaredFields()) {
            CHECK.yes(f + " is private", Modifier.isPrivate(f.getModifiers()) || f.getName().equals("NONE"));
        }
        CHECK.due("NONE", TwoMinds.NONE, -1);
        CHECK.yes("the inner classes are few", TwoMinds.class.getDeclaredClasses().length <= 12);
    }

    private static void closed(Class<?> c, TreeSet<String> faceNames) {
        int fields = 0;
        for (Field f : c.getDeclaredFields()) {
            boolean constant = Modifier.isStatic(f.getModifiers());
            CHECK.yes(f + ", being static, is final", !constant || Modifier.isFinal(f.getModifiers()));
            fields += constant ? 0 : 1;
        }
        CHECK.yes(c + " has some twenty fields: " + fields, fields <= 20);
        for (Method m : c.getDeclaredMethods()) {
            boolean ofFace = c == TwoMinds.class && Modifier.isPublic(m.getModifiers());
            CHECK.yes(m + " doesn't bear a name of the face", ofFace || !faceNames.contains(m.getName()));
            CHECK.yes(m + " takes at most seven", m.getParameterCount() <= 7);
        }
    }

    private static void source() throws IOException {
        String source = Files.readString(Path.of("src/main/java/TwoMinds.java"));
        for (String banned : BANNED) {
            CHECK.yes("no '" + banned + "' in the source", !source.contains(banned));
        }
        CHECK.due("throw statements: led's", source.split("throw new ").length - 1, 1);
    }

    /** Nothing but what the document names may reach the caller, in any state. */
    private static void anyNumbers() {
        Random random = new Random(7);
        Method[] methods = TwoMinds.class.getDeclaredMethods();
        Arrays.sort(methods, (a, b) -> a.getName().compareTo(b.getName()));
        for (int run = 0; run < 60; run++) {
            TwoMinds x = new TwoMinds();
            if (run % 10 != 0) {
                Check.book(x, new BookMaker(random).text());
            }
            for (int k = 0; k < 470; k++) {
                Method m = methods[random.nextInt(methods.length)];
                if (Modifier.isPublic(m.getModifiers())) {
                    callWith(random, x, m);
                }
            }
        }
    }

    /** All calls of one run live in one room: what an object holds is kept small, and no call makes more. */
    private static void roomOfOne() {
        TwoMinds x = new TwoMinds();
        int[] fresh = held(x);
        CHECK.yes("objects and arrays in a new one: " + fresh[0], fresh[0] <= 80);
        CHECK.yes("fields and elements in a new one: " + fresh[1], fresh[1] <= 2500);
        Check.book(x, "bar long 8 wide 5;water 9 pulls 40 shield 30 flow 5 swell 9;kind a hard 1 room 0 bears 999;"
            + "kind b hard 9 room 5 bears 999;turn b below 600 drop 9;red r 100 to 999;stone s days 1 shows 0;smith t 2");
        x.heat(900);
        x.go(60);
        x.again(30);
        x.aim(900, 5, 5);
        x.lowers(900, 5, 5);
        x.eye(0, 0, 2, 1, 5);
        x.learn(1, 1, 1, 1);
        Check.book(x, "bar long");
        int[] used = held(x);
        CHECK.yes("no more objects and arrays in a used one: " + used[0], used[0] <= fresh[0]);
        CHECK.yes("no more fields and elements in a used one: " + used[1], used[1] <= fresh[1]);
    }

    /** How many objects and arrays, how many fields and elements can be reached from one object. */
    private static int[] held(Object first) {
        Set<Object> seen = Collections.newSetFromMap(new IdentityHashMap<>());
        ArrayList<Object> open = new ArrayList<>();
        seen.add(first);
        open.add(first);
        int inside = 0;
        while (!open.isEmpty()) {
            Object o = open.remove(open.size() - 1);
            if (o.getClass().isArray()) {
                inside += Array.getLength(o);
                continue;
            }
            for (Field f : o.getClass().getDeclaredFields()) {
                if (!Modifier.isStatic(f.getModifiers())) {
                    inside++;
                    Object part = f.getType().isPrimitive() ? null : valueOf(f, o);
                    if (part != null && seen.add(part)) {
                        open.add(part);
                    }
                }
            }
        }
        return new int[] {seen.size(), inside};
    }

    private static Object valueOf(Field f, Object o) {
        try {
            f.setAccessible(true);
            return f.get(o);
        } catch (IllegalAccessException e) {
            throw new IllegalStateException(e);
        }
    }

    private static void callWith(Random random, TwoMinds x, Method m) {
        Object[] numbers = new Object[m.getParameterCount()];
        for (int k = 0; k < numbers.length; k++) {
            numbers[k] = random.nextInt(9) == 0 ? random.nextInt() : NUMBERS[random.nextInt(NUMBERS.length)];
        }
        Throwable thrown = null;
        try {
            m.invoke(x, numbers);
        } catch (ReflectiveOperationException e) {
            thrown = e.getCause();
        }
        boolean due = thrown == null || m.getName().equals("led") && thrown instanceof NoSuchElementException;
        CHECK.yes(m.getName() + Arrays.toString(numbers) + " threw " + thrown, due);
    }
}

import java.lang.reflect.InvocationTargetException;
import java.lang.reflect.Method;
import java.lang.reflect.Modifier;
import java.util.Arrays;
import java.util.Comparator;
import java.util.function.IntSupplier;

/** What the edge tests share. Each static method promiseNN_.. of theirs is a test of its own, on objects of its own. */
abstract class Edges {
    static final int BAD = -1, NO = -2, FULL = -3, NONE = -4, RESTING = 99;
    static final int NORTH = 0, EAST = 1, SOUTH = 2, WEST = 3;
    private static String test = "";
    private static int wrong = 0;

    /** Runs all tests of a class, and ends the machine with 1 if one fails. */
    static void run(Class<?> tests) {
        Method[] all = tests.getDeclaredMethods();
        Arrays.sort(all, Comparator.comparing(Method::getName));
        int ran = 0;
        int failed = 0;
        for (Method m : all) {
            if (!m.getName().startsWith("promise") || !Modifier.isStatic(m.getModifiers())) {
                continue;
            }
            test = m.getName();
            int before = wrong;
            try {
                m.invoke(null);
            } catch (InvocationTargetException thrown) {
                wrong++;
                System.out.println(test + " threw " + thrown.getCause());
            } catch (IllegalAccessException closed) {
                wrong++;
                System.out.println(test + " can not be run");
            }
            ran++;
            failed += wrong > before ? 1 : 0;
        }
        System.out.println(ran + " tests, " + failed + " failed");
        if (failed > 0 || ran == 0) {
            System.exit(1);
        }
    }

    static void due(long got, long want) {
        if (got != want) {
            wrong++;
            System.out.println(test + lineOfTest() + " answered " + got + ", due is " + want);
        }
    }

    static void due(String got, String want) {
        if (!got.equals(want)) {
            wrong++;
            System.out.println(test + lineOfTest() + " stands as\n  " + got + "\ndue is\n  " + want);
        }
    }

    private static String lineOfTest() {
        for (StackTraceElement e : new Throwable().getStackTrace()) {
            if (e.getMethodName().equals(test)) {
                return " (line " + e.getLineNumber() + ")";
            }
        }
        return "";
    }

    /** The call answers that, and all stands behind it as before. */
    static void stays(SheepChess g, IntSupplier call, int want) {
        String before = all(g);
        due(call.getAsInt(), want);
        due(all(g), before);
    }

    static void write(SheepChess g, String text) {
        for (char c : text.toCharArray()) {
            g.write(c);
        }
    }

    /** A new object on which that text is laid; THE TEXT is empty again. */
    static SheepChess laid(String text) {
        SheepChess g = new SheepChess();
        write(g, text);
        due(g.fault(), NONE);
        due(g.lay(), g.count(2));
        g.wipe();
        return g;
    }

    static int faultOf(String text) {
        SheepChess g = new SheepChess();
        write(g, text);
        return g.fault();
    }

    static void rest(SheepChess g, int days) {
        int day = g.count(3);
        for (int i = 1; i <= days; i++) {
            due(g.rest(), day + i);
        }
    }

    /** All that can be seen without asking what can be; at most 119 calls of the 512 that an object is used for. */
    static String all(SheepChess g) {
        StringBuilder s = new StringBuilder("counts");
        for (int what = 0; what <= 12; what++) {
            s.append(' ').append(g.count(what));
        }
        return s.append(meadow(g)).toString();
    }

    /** Grass and beasts alone. */
    static String meadow(SheepChess g) {
        int squares = g.count(0);
        int beasts = g.count(2);
        StringBuilder s = new StringBuilder(" squares");
        for (int x = 0; x < squares; x++) {
            s.append(' ').append(g.square(x, 0)).append('/').append(g.square(x, 1));
        }
        s.append(" beasts");
        for (int b = 0; b < beasts; b++) {
            s.append(' ').append(g.beast(b, 0)).append('/').append(g.beast(b, 1));
            s.append('/').append(g.beast(b, 2)).append('/').append(g.beast(b, 3));
        }
        return s.toString();
    }
}

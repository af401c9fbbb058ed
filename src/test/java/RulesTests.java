import java.lang.reflect.Constructor;
import java.lang.reflect.Field;
import java.lang.reflect.Method;
import java.lang.reflect.Modifier;
import java.nio.file.Files;
import java.nio.file.Path;
import java.util.ArrayList;
import java.util.Arrays;
import java.util.Collections;
import java.util.List;
import java.util.TreeSet;
import java.util.regex.Matcher;
import java.util.regex.Pattern;

/**
 * The face of the class, those rules of LANGUAGE.md that its source shows, and what README.md says of it. The arguments: the
 * paths of the source and of README.md.
 */
public final class RulesTests {
    private static int passed = 0, failed = 0;
    private static final String FACE = "again(int) back() beast(int,int) count(int) drive(int,int) fault() "
        + "fewest(int,int,int) game(int,int) goes(int,int) keep() lay() otherwise(int,int,int) rest() season(int,int,int) "
        + "square(int,int) starves(int) stray(int,int) summer(int,int) takes(int,int) undo() wipe() "
        + "wolves(int,int,int,int) write(int)";

    /** The parts of the interface, each with its calls, as the document has them. */
    private static final String PARTS = "---- meadows: write wipe fault lay square beast goes takes ---- days: drive rest undo "
        + "---- what can be: fewest stray summer game again starves ---- what was told: otherwise "
        + "---- wolves, seasons: wolves season keep back count";

    private static void due(String what, Object got, Object want) {
        if (want.equals(got)) {
            passed++;
        } else {
            failed++;
            System.out.println(what + ": " + got + ", due is " + want);
        }
    }

    public static void main(String[] args) throws Exception {
        face();
        wildArguments();
        source(Files.readString(Path.of(args[0])));
        parts(Files.readString(Path.of(args[0])));
        readme(Files.readString(Path.of(args[1])));
        exampleOfReadme();
        System.out.println(passed + " passed, " + failed + " failed");
        if (failed != 0) {
            System.exit(1);
        }
    }

    private static void face() throws Exception {
        due("final", Modifier.isFinal(SheepChess.class.getModifiers()), true);
        TreeSet<String> methods = new TreeSet<>();
        TreeSet<String> names = new TreeSet<>();
        TreeSet<String> own = new TreeSet<>();
        for (Method m : SheepChess.class.getDeclaredMethods()) {
            if (Modifier.isPrivate(m.getModifiers())) {
                own.add(m.getName());
                continue;
            }
            StringBuilder s = new StringBuilder(m.getName()).append('(');
            for (Class<?> p : m.getParameterTypes()) {
                s.append(s.charAt(s.length() - 1) == '(' ? "" : ",").append(p.getName());
            }
            methods.add(s.append(')').toString());
            names.add(m.getName());
            due("answer of " + m.getName(), m.getReturnType(), int.class);
            due("modifiers of " + m.getName(), m.getModifiers(), Modifier.PUBLIC);
        }
        due("methods", methods, new TreeSet<>(Arrays.asList(FACE.split(" "))));
        TreeSet<String> fields = new TreeSet<>();
        for (Field f : SheepChess.class.getDeclaredFields()) {
            if (!Modifier.isPrivate(f.getModifiers())) {
                fields.add(f.getName() + "=" + f.get(null));
            }
        }
        due("constants", fields.toString(), "[BAD=-1, FULL=-3, NO=-2, NONE=-4]");
        Constructor<?>[] made = SheepChess.class.getDeclaredConstructors();
        due("constructors", made.length + " " + made[0], "1 public SheepChess()");
        for (Class<?> inside : SheepChess.class.getDeclaredClasses()) {
            due(inside.getName() + " is seen outside", inside.getModifiers() & (Modifier.PUBLIC | Modifier.PROTECTED), 0);
            due(inside.getName() + " is static", Modifier.isStatic(inside.getModifiers()), true);
            for (Method m : inside.getDeclaredMethods()) {
                if (Modifier.isPrivate(m.getModifiers())) {
                    own.add(m.getName());
                }
            }
        }
        own.retainAll(names);
        due("private methods with a public one's name", own, new TreeSet<String>());
    }

    /** Whatever is asked, something is answered, and what is BAD changes nothing. */
    private static void wildArguments() throws Exception {
        int[] wild = {Integer.MIN_VALUE, -1000, -5, -4, -2, 100, 1000, 65536, Integer.MAX_VALUE - 1, Integer.MAX_VALUE};
        for (Method m : SheepChess.class.getDeclaredMethods()) {
            int n = m.getParameterCount();
            for (int i = 0; Modifier.isPublic(m.getModifiers()) && i < Math.pow(wild.length, n) && i < 1000; i++) {
                Object[] args = new Object[n];
                int left = i;
                for (int j = 0; j < n; j++) {
                    args[j] = wild[left % wild.length];
                    left /= wild.length;
                }
                boolean letter = m.getName().equals("write") && (int) args[0] == 100;
                int answer = (int) m.invoke(new SheepChess(), args);
                if (n > 0) {
                    due(m.getName() + Arrays.toString(args), answer, letter ? 1 : -1);
                }
            }
        }
    }

    private static void source(String text) {
        String[] never = {"\\bimport (?!java\\.util\\.(ArrayList|List|Arrays|Iterator|NoSuchElementException);)", "\\bpackage\\b",
            "\\bcatch \\([^)]*(ArrayIndex|NullPointer|ClassCast|NegativeArray|ArrayStore|Throwable|Error|\\bException)", "\\bfinally\\b",
            "\\btry \\(", "\\)\\s*->", "[=(,]\\s*\\w+\\s*->", "::", "\\bsynchronized\\b", "\\bassert\\b", "\\bprotected\\b",
            "Exact\\b", "Math\\.random", "\\bThread\\b", "\\bRandom\\b", "System\\.(?!arraycopy)"};
        String bare = text.replaceAll("/\\*(?s:.*?)\\*/|//[^\n]*", "").replaceAll("\"[^\"\n]*\"", "\"\"");
        for (String sign : never) {
            Matcher m = Pattern.compile(sign).matcher(bare);
            due("the source says " + sign, m.find(), false);
        }
        due("signs 1 to 126 alone", text.chars().allMatch(c -> c == '\n' || c >= 32 && c < 127), true);
        due("classes at most 12", bare.split("\\bclass\\b").length - 1 <= 12, true);
        due("static fields are final", Pattern.compile("static (?!final)\\w+(\\[\\])? \\w+( =|;)").matcher(bare).find(), false);
        due("methods too long", longMethods(text), Collections.emptyList());
    }

    private static void parts(String text) {
        StringBuilder told = new StringBuilder();
        Matcher m = Pattern.compile("\n    (?:// (---- [a-z, ]+)|public int (\\w+)\\()").matcher(text);
        while (m.find()) {
            told.append(told.length() == 0 ? "" : " ").append(m.group(1) == null ? m.group(2) : m.group(1) + ":");
        }
        due("parts of the interface", told.toString(), PARTS);
    }

    /** README.md has a row for each call, with as many arguments, and one for each answer below 0. */
    private static void readme(String text) {
        for (String call : FACE.split(" ")) {
            int at = call.indexOf('(');
            String args = call.substring(at + 1, call.length() - 1).replace("int", "\\w+").replace(",", ", ");
            String row = "(?m)^\\| `" + call.substring(0, at) + "\\(" + args + "\\)` \\|";
            due("README.md has a row for " + call, Pattern.compile(row).matcher(text).results().count(), 1L);
        }
        for (String answer : new String[] {"BAD -1", "NO -2", "FULL -3", "NONE -4"}) {
            String row = "(?m)^\\| `" + answer.replace(" ", "`\\s+\\| ") + " \\|";
            due("README.md has a row for " + answer, Pattern.compile(row).matcher(text).results().count(), 1L);
        }
        due("README.md says how to run the tests", text.contains("bash .ci/run"), true);
    }

    private static void exampleOfReadme() {
        SheepChess game = new SheepChess();
        int length = 0;
        for (char letter : "r000;r020;b0,0,0;b3,1,5;w4;h5;s0;s1;".toCharArray()) {
            length = game.write(letter);
        }
        int[] told = {length, game.fault(), game.lay(), game.goes(0, 1), game.drive(0, 1), game.undo(), game.summer(0, -1),
            game.summer(0, 0)};
        due("README.md's example", Arrays.toString(told), "[36, -4, 2, 2, 2, 0, 3, 2]");
    }

    private static List<String> longMethods(String text) {
        List<String> found = new ArrayList<>();
        String[] lines = text.split("\n");
        for (int i = 0; i < lines.length; i++) {
            Matcher head = Pattern.compile("^( {4}| {8})[\\w].*\\) \\{$").matcher(lines[i]);
            if (head.find()) {
                int end = i;
                while (end < lines.length - 1 && !lines[end].equals(head.group(1) + "}")) {
                    end++;
                }
                if (end - i >= 60 || lines[i].split(",").length > 7) {
                    found.add(lines[i].trim());
                }
            }
        }
        return found;
    }
}

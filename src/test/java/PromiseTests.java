/** Each promise by answers worked out by hand: ordinary calls, the edges the document names, and wrong inputs. */
public final class PromiseTests {
    private static final int BAD = -1, NO = -2, FULL = -3, NONE = -4;
    private static int passed = 0, failed = 0, promise = 0;

    private static void due(String call, long got, long want) {
        if (got == want) {
            passed++;
        } else {
            failed++;
            System.out.println("promise " + promise + ": " + call + " answered " + got + ", due is " + want);
        }
    }

    private static void put(SheepChess g, String text) {
        for (char c : text.toCharArray()) {
            g.write(c);
        }
    }

    private static SheepChess laid(String text) {
        SheepChess g = new SheepChess();
        put(g, text);
        due("fault of " + text, g.fault(), NONE);
        due("lay of " + text, g.lay(), g.count(2));
        g.wipe();
        return g;
    }

    private static int faultOf(String text) {
        SheepChess g = new SheepChess();
        put(g, text);
        return g.fault();
    }

    /** Where all stands, in one line: day, grass, beasts, what is kept and can be undone, the text's length. */
    private static String all(SheepChess g) {
        StringBuilder s = new StringBuilder();
        for (int i = 0; i < 13; i++) {
            s.append(g.count(i)).append(' ');
        }
        int squares = g.count(0);
        int beasts = g.count(2);
        for (int x = 0; x < squares; x++) {
            s.append(g.square(x, 0)).append(',').append(g.square(x, 1)).append(' ');
        }
        for (int b = 0; b < beasts; b++) {
            for (int what = 0; what < 4; what++) {
                s.append(g.beast(b, what)).append(',');
            }
        }
        return s.toString();
    }

    private static void rows(String call, SheepChess g, int[]... asked) {
        for (int[] a : asked) {
            int n = a.length;
            int p = n > 1 ? a[0] : 0, q = n > 2 ? a[1] : 0, r = n > 3 ? a[2] : 0, t = n > 4 ? a[3] : 0;
            due(call + "(" + p + ", " + q + ", " + r + ", " + t + ")", ask(call, g, p, q, r, t), a[n - 1]);
        }
    }

    private static int ask(String call, SheepChess g, int p, int q, int r, int t) {
        switch (call) {
            case "square": return g.square(p, q);
            case "beast": return g.beast(p, q);
            case "goes": return g.goes(p, q);
            case "takes": return g.takes(p, q);
            case "drive": return g.drive(p, q);
            case "rest": return g.rest();
            case "fewest": return g.fewest(p, q, r);
            case "stray": return g.stray(p, q);
            case "summer": return g.summer(p, q);
            case "game": return g.game(p, q);
            case "again": return g.again(p);
            case "starves": return g.starves(p);
            case "otherwise": return g.otherwise(p, q, r);
            case "wolves": return g.wolves(p, q, r, t);
            case "season": return g.season(p, q, r);
            case "count": return g.count(p);
            default: throw new IllegalArgumentException(call);
        }
    }

    private static int[] is(int... a) {
        return a;
    }

    public static void main(String[] args) {
        newObject();
        writing();
        faults();
        laying();
        squares();
        beasts();
        going();
        taking();
        driving();
        resting();
        undoing();
        fewestDrives();
        straying();
        summers();
        games();
        grassAgain();
        starving();
        toldOtherwise();
        wolves();
        seasons();
        keeping();
        counting();
        System.out.println(passed + " passed, " + failed + " failed");
        if (failed != 0) {
            System.exit(1);
        }
    }

    private static void newObject() {
        promise = 1;
        SheepChess g = new SheepChess();
        String grass = "0120330092004102900000130";
        int[] places = {22, 20, 21, 24, 2, 4, 1, 0};
        for (int x = 0; x < 25; x++) {
            due("square " + x, g.square(x, 0), grass.charAt(x) - '0');
        }
        for (int b = 0; b < 8; b++) {
            due("kind " + b, g.beast(b, 0), b % 4);
            due("village " + b, g.beast(b, 1), b / 4);
            due("place " + b, g.beast(b, 2), places[b]);
            due("hunger " + b, g.beast(b, 3), 0);
        }
        rows("count", g, is(0, 25), is(1, 5), is(2, 8), is(3, 0), is(6, 100), is(7, 0), is(9, 3), is(10, 0), is(11, 0),
            is(12, 0));
        due("the well is on 7, behind a text there is another", g.summer(0, -1), NONE);
        for (int day = 1; day <= 3; day++) {
            due("rest", g.rest(), day);
        }
        due("it snows on day 3: the ram stops ahead of 2", g.drive(4, 2), 12);
        SheepChess fresh = new SheepChess();
        due("an object of its own", fresh.count(3), 0);
    }

    private static void writing() {
        promise = 2;
        SheepChess g = new SheepChess();
        due("31", g.write(31), BAD);
        due("127", g.write(127), BAD);
        due("-1", g.write(-1), BAD);
        due("32", g.write(32), 1);
        due("126", g.write(126), 2);
        for (int i = 3; i <= 200; i++) {
            due("letter " + i, g.write('r'), i);
        }
        due("the 201st", g.write('r'), FULL);
        due("BAD ahead of FULL", g.write(127), BAD);
        due("letters", g.count(12), 200);
        promise = 3;
        due("wipe", g.wipe(), 200);
        due("wipe again", g.wipe(), 0);
        due("write behind it", g.write('r'), 1);
        due("the meadow stays", g.count(2), 8);
    }

    private static void faults() {
        promise = 4;
        String[] right = {"", "r0;", "r999999;", "r012345;r678900;", "r0;r1;r2;r3;r4;r5;", "r00;b0,0,0;r00;b03,01,03;",
            "r00;w0;w01;w1;", "h1;h9;h09;", "s0;s1;s00;s01;s0;s0;s0;s0;s0;", "r000000;r000000;b3,1,11;",
            "r00000000;".substring(0, 5) + "00;", "r0000;r0000;b0,0,0;b0,0,1;b0,0,2;b0,0,3;b0,0,4;b0,0,5;b0,0,6;b0,0,7;"};
        for (String text : right) {
            due(text, faultOf(text), NONE);
        }
        Object[][] wrong = {{"r;", 0}, {"r0", 0}, {"r0123456;", 0}, {"r00;r000;", 4}, {"r00;r0;", 4}, {"r0a;", 0},
            {"r0;r1;r2;r3;r4;r5;r6;", 18}, {" r0;", 0}, {"r0; ", 3}, {"r0;;", 3}, {"x0;", 0}, {"R0;", 0},
            {"b0,0,0;", 0}, {"r00;b0,0,2;r00;", 4}, {"r09;b0,0,1;", 4}, {"r00;b0,0,1;b1,1,1;", 11}, {"r00;b4,0,1;", 4},
            {"r00;b0,2,1;", 4}, {"r00;b0,0;", 4}, {"r00;b0,0,0,0;", 4}, {"r00;b0,0,001;", 4}, {"r00;b,0,1;", 4},
            {"r00;b0,0,;", 4}, {"r00;b0,0,1", 4}, {"r00;b0;0;1;", 4}, {"r00;b003,0,1;", 4}, {"r00;b-0,0,1;", 4},
            {"w0;", 0}, {"r09;w1;", 4}, {"r09;w2;", 4}, {"r00;w000;", 4}, {"r00;w;", 4}, {"r00;w1", 4},
            {"h0;", 0}, {"h10;", 0}, {"h;", 0}, {"h009;", 0}, {"h4;h", 3}, {"h1,2;", 0},
            {"s2;", 0}, {"s;", 0}, {"s0;s0;s0;s0;s0;s0;s0;s0;s0;s0;", 27}, {"s0;s0;s0;s0;s0;s0;s0;s0;s0;h10;", 27},
            {"r0000;r0000;r0;", 12}, {"h4;r00;h0;w9;", 7},
            {"r00000;r00000;b0,0,0;b0,0,1;b0,0,2;b0,0,3;b0,0,4;b0,0,5;b0,0,6;b0,0,7;b0,0,8;", 70}};
        for (Object[] row : wrong) {
            due((String) row[0], faultOf((String) row[0]), (Integer) row[1]);
        }
        SheepChess g = new SheepChess();
        String before = all(g);
        put(g, "r00;b0,0,0;x");
        due("fault", g.fault(), 11);
        due("fault again", g.fault(), 11);
        g.wipe();
        due("a reading changes nothing", all(g).equals(before) ? 1 : 0, 1);
    }

    private static void laying() {
        promise = 5;
        SheepChess g = new SheepChess();
        due("nothing told", g.lay(), NO);
        put(g, "r000;w1;h2;");
        due("no beast", g.lay(), NO);
        put(g, "b0,0,1;b1,1,0;b");
        String before = all(g);
        due("a fault", g.lay(), NO);
        due("nothing changes", all(g).equals(before) ? 1 : 0, 1);
        g.wipe();
        g.rest();
        g.keep();
        put(g, "r002;b0,0,1;b2,1,0;");
        due("two", g.lay(), 2);
        rows("count", g, is(0, 3), is(1, 3), is(2, 2), is(3, 0), is(8, 2), is(9, 4), is(10, 0), is(11, 0), is(12, 19));
        rows("beast", g, is(0, 3, 0), is(1, 3, 0), is(1, 2, 0));
        due("no well is left of the old one", g.summer(0, -1), NO);
        due("nothing kept", g.back(), NO);
        due("nothing undone", g.undo(), NO);
        g.rest();
        g.rest();
        due("hungry", g.beast(1, 3), 2);
        due("again", g.lay(), 2);
        due("nobody hungry", g.beast(1, 3), 0);
        due("day 0", g.count(3), 0);
        due("the text's last H counts", laid("r0;b0,0,0;h3;h7;").count(9), 7);
        due("the last well counts", laid("r000;b0,0,0;w0;w2;").summer(0, -1), 1);
    }

    private static void squares() {
        promise = 6;
        SheepChess g = laid("r089;r120;b0,0,3;b1,1,0;");
        rows("square", g, is(0, 0, 0), is(1, 0, 8), is(2, 0, 9), is(3, 0, 1), is(4, 0, 2), is(5, 0, 0), is(0, 1, 1),
            is(3, 1, 0), is(1, 1, NONE), is(2, 1, NONE), is(6, 0, BAD), is(-1, 0, BAD), is(0, 2, BAD), is(0, -1, BAD));
    }

    private static void beasts() {
        promise = 7;
        SheepChess g = laid("r000;r000;r000;b2,0,3;b3,1,8;b1,0,7;h1;");
        rows("beast", g, is(0, 0, 2), is(0, 1, 0), is(0, 2, 3), is(0, 3, 0), is(1, 0, 3), is(1, 1, 1), is(1, 2, 8),
            is(3, 0, BAD), is(-1, 0, BAD), is(0, 4, BAD), is(0, -1, BAD));
        due("the pawn comes to the first row", g.drive(0, 0), 0);
        rows("beast", g, is(0, 0, 1), is(0, 2, 0), is(0, 3, 1), is(1, 3, 1));
        due("the king takes the ewe", g.drive(1, 3), 7);
        rows("beast", g, is(2, 2, NONE), is(2, 3, 1), is(2, 0, 1), is(2, 1, 0), is(0, 2, NONE), is(0, 3, 2),
            is(1, 2, NONE), is(1, 0, 3));
    }

    private static void going() {
        promise = 8;
        SheepChess ram = laid("r00300;r00000;r09000;b0,0,5;b0,1,14;b1,0,1;");
        rows("goes", ram, is(0, 0, 0), is(0, 1, 9), is(0, 2, 10), is(0, 3, NONE), is(1, 0, 4), is(1, 1, NONE),
            is(1, 2, NONE), is(1, 3, 12), is(2, 0, NONE), is(2, 1, 2), is(2, 2, 6), is(2, 3, 0), is(3, 0, BAD),
            is(-1, 0, BAD), is(0, 4, BAD), is(0, -1, BAD));
        SheepChess stop = laid("r012003;b0,0,1;b0,1,5;");
        rows("goes", stop, is(0, 1, 2), is(0, 3, 0), is(1, 3, 2), is(1, 1, NONE));
        SheepChess own = laid("r000000;b0,0,0;b1,0,3;b1,1,5;");
        rows("goes", own, is(0, 1, 2), is(1, 1, 4), is(1, 3, 2), is(2, 3, 4));
        SheepChess other = laid("r000000;b0,0,0;b1,1,3;b1,0,4;s0;s1;");
        rows("goes", other, is(0, 1, 3), is(1, 1, 4), is(2, 3, 3));
        due("rest", other.rest(), 1);
        rows("goes", other, is(0, 1, 2), is(1, 1, NONE), is(2, 3, NONE), is(2, 1, 5));
        rows("goes", laid("r00;b1,0,0;b1,1,1;s1;"), is(0, 1, NONE));
        SheepChess ninth = laid("r00;b1,0,0;b1,1,1;h9;s1;s0;s1;s0;s1;s0;s1;s0;s1;");
        for (int day = 0; day < 8; day++) {
            rows("goes", ninth, is(0, 1, day % 2 == 0 ? NONE : 1));
            ninth.rest();
        }
        rows("goes", ninth, is(0, 1, NONE));
        ninth.rest();
        rows("goes", ninth, is(0, 1, NONE));
        SheepChess king = laid("r0000;r0000;r0000;b3,0,5;b0,1,3;b0,0,8;b3,1,10;");
        rows("goes", king, is(0, 0, 1), is(0, 1, 6), is(0, 2, 9), is(0, 3, 4), is(3, 3, NONE), is(3, 0, 6),
            is(3, 1, 11), is(1, 2, 11), is(1, 3, 0));
        SheepChess guarded = laid("r000;b3,0,0;b0,1,1;b0,1,2;");
        rows("goes", guarded, is(0, 1, NONE));
        SheepChess lone = laid("r000;b3,0,0;b0,1,1;b1,1,2;");
        rows("goes", lone, is(0, 1, 1));
        SheepChess pawns = laid("r000;r000;r000;r900;b2,0,4;b2,1,1;b2,0,7;b2,1,6;b2,0,2;b2,1,11;");
        rows("goes", pawns, is(0, 0, NONE), is(0, 1, NONE), is(0, 2, NONE), is(0, 3, NONE), is(1, 2, NONE),
            is(2, 0, NONE), is(3, 2, NONE), is(4, 0, NONE), is(5, 2, NONE));
        SheepChess free = laid("r00;r00;r00;b2,0,2;b2,1,3;");
        rows("goes", free, is(0, 0, 0), is(0, 2, NONE), is(0, 1, NONE), is(1, 2, 5), is(1, 0, NONE));
        SheepChess off = laid("r00;b1,0,0;b1,1,1;");
        off.drive(0, 1);
        rows("goes", off, is(1, 0, NO), is(1, 4, BAD), is(0, 3, 0));
    }

    private static void taking() {
        promise = 9;
        SheepChess g = laid("r000000;b0,0,0;b1,1,3;b1,0,4;s0;s1;");
        rows("takes", g, is(0, 1, 1), is(1, 1, 2), is(2, 3, 1), is(2, 1, NONE), is(0, 0, NONE), is(3, 0, BAD),
            is(0, 4, BAD), is(-1, 0, BAD), is(0, -1, BAD));
        g.rest();
        rows("takes", g, is(0, 1, NONE), is(1, 1, NONE));
        g.rest();
        due("the ram takes", g.drive(0, 1), 3);
        rows("takes", g, is(1, 0, NO), is(1, 4, BAD));
        SheepChess pawn = laid("r0;r0;b2,1,0;b1,0,1;");
        rows("takes", pawn, is(0, 2, NONE), is(1, 0, 0));
        SheepChess king = laid("r000;b3,0,0;b0,1,1;");
        rows("takes", king, is(0, 1, 1), is(1, 3, 0));
    }

    private static void driving() {
        promise = 10;
        SheepChess g = laid("r0020;r0000;r0000;b0,0,0;b1,0,5;b1,1,6;b1,1,11;h2;");
        rows("drive", g, is(4, 0, BAD), is(-1, 0, BAD), is(0, 4, BAD), is(0, -1, BAD), is(2, 0, NO), is(0, 0, NO),
            is(0, 3, NO));
        due("nothing changed", g.count(3), 0);
        due("to the grass", g.drive(0, 1), 2);
        rows("count", g, is(3, 1), is(8, 1), is(10, 1));
        rows("beast", g, is(0, 3, 0), is(1, 3, 1), is(2, 3, 1), is(3, 3, 1));
        due("not its day", g.drive(1, 0), NO);
        due("takes the ram", g.drive(2, 0), 2);
        rows("beast", g, is(0, 2, NONE), is(0, 3, 0), is(2, 3, 0), is(1, 3, 2), is(3, 3, 2));
        due("off the meadow", g.drive(0, 1), NO);
        due("driven and starved", g.drive(1, 0), 1);
        rows("beast", g, is(1, 2, NONE), is(1, 3, 3), is(3, 2, NONE), is(2, 3, 1));
        due("worth", g.count(6), 97);
        SheepChess grown = laid("r01;r87;r09;b1,0,0;b1,1,3;h9;");
        for (int day = 1; day <= 8; day++) {
            due("rest", grown.rest(), day);
        }
        rows("square", grown, is(1, 0, 1), is(2, 0, 8), is(3, 0, 0), is(4, 0, 0));
        due("on day 8", grown.drive(0, 2), 2);
        rows("square", grown, is(0, 0, 1), is(1, 0, 2), is(2, 0, 7), is(3, 0, 0), is(4, 0, 1), is(5, 0, 9));
        due("hungry no more", grown.beast(0, 3), 0);
        due("hungry first", grown.beast(1, 3), 2);
        SheepChess high = laid("r78;r00;b1,0,2;h9;");
        for (int day = 1; day <= 9; day++) {
            high.rest();
        }
        rows("square", high, is(0, 0, 8), is(1, 0, 8), is(2, 0, 0), is(3, 0, 1));
        SheepChess lost = laid("r000;r000;b3,1,2;b1,0,1;b1,1,3;");
        due("takes the king", lost.drive(1, 1), 2);
        due("lost", lost.count(7), 2);
        due("nobody drives", lost.drive(2, 1), NO);
        due("BAD still", lost.drive(3, 1), BAD);
        due("the day stays", lost.count(3), 1);
        SheepChess two = laid("r000;r000;b3,1,2;b1,0,1;b3,1,3;");
        two.drive(1, 1);
        due("another king is there", two.count(7), 0);
        due("so it goes on", two.drive(2, 1), 4);
        SheepChess turned = laid("r00;r00;r00;b2,1,2;b1,0,1;");
        turned.rest();
        due("to the last row", turned.drive(0, 2), 4);
        due("an ewe", turned.beast(0, 0), 1);
        turned.rest();
        due("as an ewe goes", turned.drive(0, 1), 5);
        SheepChess ram = laid("r000000;b0,0,0;b1,1,3;b1,1,5;");
        due("one is taken", ram.drive(0, 1), 3);
        rows("beast", ram, is(1, 2, NONE), is(2, 2, 5));
    }

    private static void resting() {
        promise = 11;
        SheepChess g = laid("r00;b1,0,0;b1,1,1;h1;");
        due("rest", g.rest(), 1);
        rows("beast", g, is(0, 3, 1), is(1, 3, 1));
        due("rest", g.rest(), 2);
        rows("count", g, is(4, 0), is(5, 0), is(3, 2), is(7, 0), is(10, 2));
        due("without kings nobody loses", g.rest(), 3);
        SheepChess king = laid("r0;r1;b3,0,0;b3,1,1;h1;");
        due("rest", king.rest(), 1);
        due("rest", king.rest(), 2);
        due("lost", king.count(7), 1);
        due("nobody rests", king.rest(), NO);
        due("the day stays", king.count(3), 2);
    }

    private static void undoing() {
        promise = 12;
        SheepChess g = laid("r00000;r11111;b1,0,7;b1,1,0;b2,0,6;h9;");
        due("nothing", g.undo(), NO);
        String third = "";
        for (int day = 0; day < 11; day++) {
            third = day == 3 ? all(g) : third;
            if (day % 2 == 0) {
                due("drive", g.drive(0, day % 4 == 0 ? 1 : 3) >= 0 ? 1 : 0, 1);
            } else {
                g.rest();
            }
        }
        due("eight", g.count(10), 8);
        for (int i = 7; i >= 0; i--) {
            due("undo", g.undo(), i);
            due("day", g.count(3), i + 3);
        }
        due("no more", g.undo(), NO);
        due("as on day 3 but for what can be undone", all(g).replace(" 0 0 0 ", " ").equals(
            third.replace(" 3 0 0 ", " ")) ? 1 : 0, 1);
        due("anew", g.rest(), 4);
        due("one", g.undo(), 0);
        SheepChess king = laid("r00;b3,1,1;b1,0,0;");
        king.drive(1, 1);
        due("lost", king.count(7), 2);
        due("undone", king.undo(), 0);
        due("not lost", king.count(7), 0);
        due("back on its square", king.beast(0, 2), 1);
        SheepChess pawn = laid("r0;r0;b2,0,1;");
        pawn.drive(0, 0);
        due("ewe", pawn.beast(0, 0), 1);
        pawn.undo();
        due("pawn", pawn.beast(0, 0), 2);
    }

    private static void fewestDrives() {
        promise = 13;
        SheepChess ewe = laid("r000;r090;r000;b1,0,0;b1,1,7;");
        rows("fewest", ewe, is(0, 0, -1, 0), is(0, 0, 0, NONE), is(0, 8, -1, 4), is(0, 8, 0, 1), is(0, 8, 1, 1),
            is(0, 8, 2, 2), is(0, 8, 3, 2), is(0, 8, 4, NONE), is(0, 4, -1, NONE), is(0, 7, -1, NONE),
            is(0, 7, 0, NONE), is(0, 6, -1, 2), is(2, 0, -1, BAD), is(-1, 0, -1, BAD), is(0, 9, -1, BAD),
            is(0, -1, -1, BAD), is(0, 0, -2, BAD), is(1, 0, -2, BAD), is(0, 0, 1000000, NONE));
        SheepChess first = laid("r00;r00;b1,0,2;");
        rows("fewest", first, is(0, 1, -1, 2), is(0, 1, 0, 0), is(0, 1, 1, 1));
        SheepChess ram = laid("r0000;r0000;r0100;b0,0,0;");
        rows("fewest", ram, is(0, 3, -1, 1), is(0, 3, 0, 1), is(0, 1, -1, 3), is(0, 1, 0, 2), is(0, 1, 1, 1),
            is(0, 1, 2, 0), is(0, 1, 3, NONE), is(0, 9, -1, 2), is(0, 5, -1, NONE), is(0, 2, -1, NONE));
        SheepChess peace = laid("r0000;b0,0,0;b1,1,3;s0;");
        rows("fewest", peace, is(0, 2, -1, 1), is(0, 3, -1, NONE));
        SheepChess pawn = laid("r00;r00;r00;b2,0,4;");
        rows("fewest", pawn, is(0, 0, -1, 2), is(0, 5, -1, 5), is(0, 5, 0, 0), is(0, 5, 1, 0), is(0, 5, 2, 1),
            is(0, 5, 3, 2), is(0, 5, 4, 2), is(0, 3, -1, 4), is(0, 4, -1, 0));
        SheepChess king = laid("r000;r000;r000;b3,0,0;b0,1,5;");
        rows("fewest", king, is(0, 4, -1, NONE), is(0, 2, -1, NONE), is(0, 8, -1, NONE), is(0, 7, -1, 3),
            is(0, 1, -1, 1));
        SheepChess far = laid("r000000;r999990;r000000;r099999;r000000;b1,0,0;");
        rows("fewest", far, is(0, 13, -1, 11), is(0, 12, -1, 12), is(0, 12, 11, 3), is(0, 18, -1, NONE),
            is(0, 18, 0, NONE));
        String before = all(far);
        far.fewest(0, 12, 3);
        due("no day goes by", all(far).equals(before) ? 1 : 0, 1);
        SheepChess off = laid("r00;b1,0,0;b1,1,1;");
        off.drive(0, 1);
        rows("fewest", off, is(1, 0, -1, NO), is(1, 2, -1, BAD), is(1, 0, -2, BAD));
    }

    private static void straying() {
        promise = 14;
        SheepChess ewe = laid("r000;r000;r000;b1,0,4;b1,1,1;");
        rows("stray", ewe, is(0, 0, 1), is(0, 1, 4), is(0, 2, 8), is(0, 6, 8), is(1, 1, 3), is(0, 7, BAD),
            is(0, -1, BAD), is(2, 0, BAD), is(-1, 0, BAD));
        SheepChess ram = laid("r0000;r0000;b0,0,0;");
        rows("stray", ram, is(0, 0, 1), is(0, 1, 3), is(0, 2, 4), is(0, 6, 4));
        SheepChess pawn = laid("r00;r00;r00;b2,0,4;");
        rows("stray", pawn, is(0, 1, 2), is(0, 2, 3), is(0, 3, 4), is(0, 4, 5), is(0, 5, 6));
        SheepChess off = laid("r00;b1,0,0;b1,1,1;");
        off.drive(0, 1);
        rows("stray", off, is(1, 0, NO), is(1, 7, BAD));
    }

    private static void summers() {
        promise = 15;
        SheepChess g = laid("r0000;r0000;b0,0,0;b0,1,7;w5;");
        rows("summer", g, is(2, -1, BAD), is(-1, -1, BAD), is(0, -2, BAD));
        due("ahead of NO, BAD", laid("r0;b0,0,0;").summer(0, -2), BAD);
        due("no well", laid("r0;b0,0,0;").summer(0, -1), NO);
        due("no well, second", laid("r0;b0,0,0;").summer(1, 3), NO);
        SheepChess there = laid("r00;b0,0,0;b1,1,1;w0;");
        rows("summer", there, is(0, -1, 0), is(0, 0, NONE), is(1, -1, NONE), is(1, 0, NONE));
        SheepChess line = laid("r0000;r0090;b0,0,0;b1,0,4;b1,1,7;w3;");
        rows("summer", line, is(0, -1, 1), is(0, 0, 1), is(0, 1, NONE));
        SheepChess second = laid("r0000;b1,1,0;b0,1,3;w1;");
        rows("summer", second, is(1, -1, 2), is(1, 0, 13), is(1, 1, NONE), is(0, -1, NONE));
        // south to 8, then west to 6
        SheepChess three = laid("r000;r000;r000;b0,0,2;b1,1,4;w6;h9;");
        rows("summer", three, is(0, -1, 3), is(0, 0, 2), is(0, 1, 3), is(0, 2, NONE));
        SheepChess five = laid("r0000;r0990;r0000;b0,0,0;b1,1,11;w9;h9;");
        due("not within five", five.summer(0, -1), NONE);
        SheepChess block = laid("r0000;r0990;r0000;b0,0,0;b1,1,3;w2;h9;");
        rows("summer", block, is(0, -1, NONE));
        // the ewe comes to 2, so that the ram stops ahead of it on 1
        SheepChess help = laid("r0000;b0,0,0;b1,0,3;w1;h9;");
        rows("summer", help, is(0, -1, 3), is(0, 0, 13), is(0, 1, 1));
        // three own days: east, south, west
        String path = "r0000;r9990;r0000;r0999;b0,0,0;b0,1,12;w8;";
        SheepChess long5 = laid(path + "h9;");
        rows("summer", long5, is(0, -1, 5), is(0, 0, 1), is(0, 1, 2), is(0, 2, 3), is(0, 3, NONE), is(1, -1, 2),
            is(1, 0, 10));
        due("it starves on the fifth day", laid(path + "h4;").summer(0, -1), NONE);
        long5.rest();
        rows("summer", long5, is(0, -1, NONE), is(1, -1, 1));
        SheepChess hungry = laid("r0000;r0900;b0,0,0;b1,0,4;w3;h1;");
        rows("summer", hungry, is(0, -1, 1), is(0, 0, 1));
        SheepChess starved = laid("r0000;b0,0,3;b1,1,0;w0;h1;");
        starved.rest();
        rows("summer", starved, is(0, -1, NONE));
        SheepChess resting = laid("r0;r0;r1;b0,1,0;b3,0,2;w1;s1;s0;");
        due("it has no ram", resting.summer(0, -1), NONE);
        SheepChess snow = laid("r00;b0,0,0;b1,1,1;w1;s1;s1;s0;h9;");
        rows("summer", snow, is(0, -1, 3), is(0, 0, 99), is(0, 1, 1), is(0, 2, NONE));
        SheepChess lost = laid("r000;r900;b0,0,0;b3,1,1;b1,1,5;w2;h9;");
        rows("summer", lost, is(0, -1, NONE));
        lost.drive(0, 1);
        due("lost", lost.count(7), 2);
        due("no day goes by", lost.summer(0, -1), NONE);
        SheepChess won = laid("r000;b0,0,0;b3,1,2;w2;h9;");
        rows("summer", won, is(0, -1, 1), is(0, 0, 1));
        won.drive(0, 1);
        rows("summer", won, is(0, -1, 0), is(0, 0, NONE));
    }

    private static void games() {
        promise = 16;
        SheepChess g = laid("r000;r000;b1,0,0;b1,1,1;b0,1,5;");
        rows("game", g, is(1, 0, 98), is(1, 1, 1), is(2, 0, 98), is(2, 1, 1), is(0, 0, BAD), is(4, 0, BAD),
            is(1, 2, BAD), is(1, -1, BAD));
        SheepChess rest = laid("r00000;b1,0,0;b0,1,4;b1,0,1;");
        rows("game", rest, is(1, 0, 101), is(1, 1, 21));
        SheepChess guard = laid("r0;r0;r9;b1,0,0;b1,1,1;");
        rows("game", guard, is(1, 0, 103), is(1, 1, 2));
        guard.rest();
        rows("game", guard, is(1, 0, 97), is(1, 1, 10), is(2, 0, 97), is(3, 0, 97));
        // the king's fall ends it: the ewe taken back no more
        SheepChess king = laid("r0000;b3,1,1;b1,0,0;b0,1,3;");
        rows("game", king, is(1, 0, 98), is(2, 0, 98), is(3, 0, 98), is(3, 1, 11));
        king.drive(1, 1);
        rows("game", king, is(1, 0, NO), is(4, 0, BAD), is(1, 2, BAD));
        SheepChess either = laid("r0;r0;b1,0,1;b1,1,0;");
        rows("game", either, is(1, 0, 103), is(1, 1, 0));
        SheepChess least = laid("r000;b1,0,0;b1,1,1;b1,0,2;");
        least.rest();
        rows("game", least, is(1, 0, 100), is(1, 1, 11));
        SheepChess still = laid("r0;b1,0,0;");
        rows("game", still, is(1, 0, 103), is(1, 1, 99), is(3, 1, 99));
        SheepChess below = laid("r000000;r000000;b3,1,0;b3,1,1;b3,1,2;b3,1,3;b3,1,4;b3,1,5;b3,1,6;b1,0,11;");
        due("below 0, one king taken", below.game(1, 0), 100 - 120 + 3);
    }

    private static void grassAgain() {
        promise = 17;
        SheepChess g = laid("r0139;b1,0,0;b1,1,1;h9;");
        rows("again", g, is(0, 18), is(1, 0), is(2, 0), is(3, NO), is(4, BAD), is(-1, BAD));
        g.rest();
        rows("again", g, is(0, 17), is(1, 17));
        SheepChess bare = laid("r00;b1,0,0;");
        rows("again", bare, is(0, 9), is(1, 9));
        for (int day = 0; day < 9; day++) {
            bare.rest();
        }
        rows("again", bare, is(1, 0), is(0, 0));
        String before = all(bare);
        bare.again(0);
        due("nothing changes", all(bare).equals(before) ? 1 : 0, 1);
        SheepChess lost = laid("r00;b3,0,0;b1,1,1;h1;");
        lost.rest();
        lost.drive(1, 3);
        due("lost", lost.count(7), 1);
        rows("again", lost, is(0, 7), is(1, 7));
    }

    private static void starving() {
        promise = 18;
        SheepChess g = laid("r038;b1,0,0;b1,1,1;b0,0,2;h9;");
        rows("starves", g, is(0, 10), is(1, 13), is(2, 18), is(3, BAD), is(-1, BAD));
        SheepChess taken = laid("r00;b1,0,0;b1,1,1;h1;");
        taken.drive(0, 1);
        rows("starves", taken, is(1, NO), is(0, 1), is(2, BAD));
        due("nothing changes", taken.count(3), 1);
        SheepChess lost = laid("r00;b3,0,0;b1,1,1;h2;");
        lost.rest();
        lost.drive(1, 3);
        rows("starves", lost, is(1, 1), is(0, NO));
    }

    private static void toldOtherwise() {
        promise = 19;
        SheepChess g = laid("r000;r000;r000;b1,0,4;b1,1,8;h9;");
        rows("otherwise", g, is(0, 4, 0, 0), is(0, 4, 1, NONE), is(2, 0, 0, BAD), is(-1, 0, 0, BAD), is(0, 9, 0, BAD),
            is(0, -1, 0, BAD), is(0, 0, 2, BAD), is(0, 0, -1, BAD));
        due("north", g.drive(0, 0), 1);
        rows("otherwise", g, is(0, 1, 0, 0), is(0, 5, 0, 1), is(0, 5, 1, 1), is(0, 7, 1, 2), is(0, 3, 1, 3),
            is(0, 4, 0, 1), is(0, 4, 1, 99), is(1, 8, 0, 4), is(1, 8, 1, 1));
        due("rest", g.rest(), 2);
        rows("otherwise", g, is(1, 5, 0, 1), is(1, 5, 1, 10), is(1, 7, 1, 13), is(1, 8, 0, 4), is(1, 8, 1, 101),
            is(0, 1, 0, 2), is(0, 1, 1, 10), is(0, 4, 1, 199));
        due("east", g.drive(0, 1), 2);
        // told otherwise on day 0 the ewe, on 5, can not go east then: it rests there
        rows("otherwise", g, is(0, 5, 0, 2), is(0, 5, 1, 201), is(0, 8, 0, 1), is(0, 8, 1, 202));
        SheepChess north = laid("r000;r000;r000;b1,0,4;h9;");
        north.drive(0, 1);
        rows("otherwise", north, is(0, 1, 0, 1), is(0, 1, 1, 0));
        SheepChess lost = laid("r000;r000;b1,0,0;b3,1,2;b1,0,3;h9;");
        lost.drive(2, 1);
        lost.rest();
        lost.drive(0, 1);
        rows("otherwise", lost, is(0, 1, 0, 3), is(0, 1, 1, 112));
        SheepChess late = laid("r00;b1,0,0;b1,1,1;h9;");
        for (int day = 0; day < 9; day++) {
            late.rest();
        }
        rows("otherwise", late, is(0, 1, 0, 4), is(0, 1, 1, 1), is(1, 0, 0, 4), is(1, 0, 1, 113));
        due("the oldest can not be undone", late.otherwise(0, 0, 0), 0);
        SheepChess done = laid("r00;b1,0,0;h9;");
        done.drive(0, 1);
        done.undo();
        rows("otherwise", done, is(0, 0, 0, 0), is(0, 0, 1, NONE));
        SheepChess ends = laid("r0000;b3,1,1;b1,0,0;b1,1,3;h9;");
        ends.rest();
        ends.drive(2, 3);
        // had the ewe taken the king on day 0, the other one would have rested
        rows("otherwise", ends, is(2, 3, 0, 2), is(2, 3, 1, 99), is(1, 1, 0, 1), is(1, 1, 1, 111));
    }

    private static void wolves() {
        promise = 20;
        SheepChess g = laid("r900;b1,0,1;b1,1,2;h9;");
        rows("wolves", g, is(0, 0, 5, 0, 1), is(0, 0, 5, 1, 1), is(0, 1, 3, 0, 7), is(0, 1, 3, 1, 10), is(0, 2, 4, 0, 9),
            is(0, 2, 4, 1, 25), is(1, 8, 10, 0, 1), is(0, 1, 10, 0, 0), is(0, 1, 10, 1, 1), is(0, 8, 0, 1, 1),
            is(0, 8, 9, 0, 1), is(0, 8, 9, 1, 100000000), is(0, 8, 1, 0, 43046721), is(2, 0, 0, 0, BAD),
            is(-1, 0, 0, 0, BAD), is(0, 9, 0, 0, BAD), is(0, -1, 0, 0, BAD), is(0, 0, 11, 0, BAD), is(0, 0, -1, 0, BAD),
            is(0, 0, 0, 2, BAD), is(0, 0, 0, -1, BAD));
        SheepChess two = laid("r090;b1,0,2;b1,1,0;h9;");
        rows("wolves", two, is(0, 2, 5, 0, 1), is(0, 2, 5, 1, 4), is(1, 2, 5, 0, 3), is(1, 2, 5, 1, 4),
            is(1, 3, 5, 0, 1), is(1, 3, 5, 1, 2));
        // behind the grazing: who starves that day is not taken, the next one is
        SheepChess starved = laid("r090;r000;b1,0,0;b1,1,2;h1;");
        rows("wolves", starved, is(0, 2, 0, 0, 0), is(0, 2, 0, 1, 1), is(1, 1, 10, 0, 1));
        SheepChess fed = laid("r093;b1,0,0;b1,1,2;h1;");
        rows("wolves", fed, is(1, 2, 5, 0, 1), is(1, 2, 5, 1, 2));
        SheepChess taken = laid("r009;b1,0,0;b1,1,1;h9;");
        taken.drive(0, 1);
        rows("wolves", taken, is(1, 1, 1, 0, NO), is(1, 9, 1, 0, BAD), is(0, 1, 3, 0, 7));
        due("nothing changes", taken.count(3), 1);
        SheepChess lost = laid("r0009;b1,0,0;b3,1,1;b1,1,2;h9;");
        lost.drive(0, 1);
        rows("wolves", lost, is(2, 1, 3, 0, 7), is(0, 8, 10, 0, 1));
    }

    private static void seasons() {
        promise = 21;
        SheepChess g = new SheepChess();
        rows("season", g, is(5, 60, 0, 96), is(5, 60, 1, 4), is(-1, 1, 0, BAD), is(10000, 1, 0, BAD), is(0, 0, 0, BAD),
            is(0, 61, 0, BAD), is(0, 1, 2, BAD), is(0, 1, -1, BAD));
        due("nothing changes", g.count(3), 0);
        // z 0: the first draw is 1 (beast 0, north), the second one 6152 x 6152 modulo 65521, 41487 (of 2 beasts the second)
        SheepChess first = laid("r00;r00;b1,0,2;b1,1,0;h9;");
        rows("season", first, is(0, 1, 0, 103), is(0, 1, 1, 1), is(0, 60, 1, 0));
        SheepChess lost = laid("r00;r00;b1,0,2;b3,1,0;h1;");
        rows("season", lost, is(0, 1, 0, 103), is(0, 60, 0, 103), is(0, 60, 1, 1));
        // an ewe amid four of the other village: whom it takes tells the draw; z 1: 7920 x 7920 modulo 65521, 22803, ..
        SheepChess amid = laid("r000;r000;r000;b1,0,4;b0,1,1;b1,1,5;b2,1,7;b3,1,3;h9;");
        rows("season", amid, is(1, 1, 0, 79), is(15, 1, 0, 77), is(16, 1, 0, 75), is(19, 1, 0, 77), is(49, 1, 0, 94),
            is(56, 60, 0, 94), is(56, 60, 1, 4), is(9999, 1, 0, 74), is(9999, 1, 1, 5));
        amid.rest();
        rows("season", amid, is(1, 1, 0, 74), is(0, 2, 0, 79), is(57, 2, 0, 77), is(57, 1, 0, 74));
        lost.drive(0, 0);
        due("lost", lost.count(7), 2);
        rows("season", lost, is(3, 60, 0, 103), is(3, 60, 1, 1), is(9999, 60, 1, 1));
    }

    private static void keeping() {
        promise = 22;
        SheepChess g = laid("r000;r003;b2,0,3;b1,1,5;h9;");
        due("keep", g.keep(), 1);
        due("drive", g.drive(0, 0), 0);
        due("keep", g.keep(), 2);
        due("full", g.keep(), FULL);
        g.rest();
        g.rest();
        put(g, "abc");
        promise = 23;
        due("can be undone", g.count(10), 3);
        due("back", g.back(), 1);
        rows("count", g, is(3, 1), is(10, 0), is(11, 1), is(12, 3), is(8, 2));
        rows("beast", g, is(0, 0, 1), is(0, 2, 0), is(0, 3, 1), is(1, 3, 0));
        due("nothing undone", g.undo(), NO);
        g.rest();
        due("undone behind it", g.undo(), 0);
        due("back", g.back(), 0);
        rows("count", g, is(3, 0), is(11, 0), is(8, 3));
        rows("beast", g, is(0, 0, 2), is(0, 2, 3));
        due("no more", g.back(), NO);
        due("keep", g.keep(), 1);
        promise = 22;
        g.rest();
        due("undo leaves what is kept", g.undo() + g.count(11), 1);
        g.drive(0, 0);
        due("one more", g.keep(), 2);
        due("what can be undone stays", g.count(10), 1);
    }

    private static void counting() {
        promise = 24;
        SheepChess g = laid("r0129;r4000;b0,0,0;b3,1,2;b2,0,6;b1,0,7;h6;");
        rows("count", g, is(0, 8), is(1, 4), is(2, 4), is(3, 0), is(4, 3), is(5, 1), is(6, 100 + 9 - 20), is(7, 0),
            is(8, 7), is(9, 6), is(10, 0), is(11, 0), is(12, 0), is(13, BAD), is(-1, BAD));
        due("pawn", g.drive(2, 0), NO);
        due("ewe", g.drive(3, 3), NO);
        due("ram", g.drive(0, 1), 1);
        rows("count", g, is(3, 1), is(8, 7 - 2), is(10, 1));
        g.rest();
        due("takes the king", g.drive(0, 1), 2);
        rows("count", g, is(2, 4), is(4, 3), is(5, 0), is(6, 109), is(7, 2), is(10, 3));
        g.keep();
        g.write('x');
        rows("count", g, is(11, 1), is(12, 1));
        SheepChess kings = laid("r000000;r000000;b3,1,0;b3,1,1;b3,1,2;b3,1,3;b3,1,4;b3,1,5;b3,1,6;b3,1,7;");
        rows("count", kings, is(6, -60), is(4, 0), is(5, 8));
        due("H is 4 without", kings.count(9), 4);
        SheepChess both = laid("r00;b3,0,0;b3,1,1;h1;");
        both.rest();
        both.rest();
        rows("count", both, is(7, 3), is(6, 100));
    }
}

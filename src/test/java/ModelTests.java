/** Runs of drawn calls: SheepChess and the Model must answer the same. The draws are always the same ones. */
public final class ModelTests {
    private static long seed = 20261119;
    private static int passed = 0, failed = 0;
    private static SheepChess game;
    private static Model model;
    private static int run;
    private static StringBuilder trail;

    private static int below(int n) {
        seed = seed * 6364136223846793005L + 1442695040888963407L;
        return (int) ((seed >>> 33) % n);
    }

    private static boolean chance(int percent) {
        return below(100) < percent;
    }

    private static void same(String call, int got, int want) {
        trail.append(call).append(" = ").append(want).append('\n');
        if (got == want) {
            passed++;
        } else {
            failed++;
            if (failed <= 5) {
                System.out.println("run " + run + ", behind\n" + trail + "answered " + got);
            }
        }
    }

    public static void main(String[] args) {
        int runs = args.length > 0 ? Integer.parseInt(args[0]) : 1500;
        for (run = 0; run < runs; run++) {
            game = new SheepChess();
            model = new Model();
            trail = new StringBuilder();
            int left = 300;
            if (chance(90)) {
                layDrawn();
                left -= 210;
            }
            for (int i = 0; i < left; i++) {
                call();
            }
        }
        System.out.println(passed + " passed, " + failed + " failed");
        if (failed != 0) {
            System.exit(1);
        }
    }

    private static void layDrawn() {
        String text = drawnText();
        for (char c : text.toCharArray()) {
            same("write(" + c + ")", game.write(c), model.write(c));
        }
        same("fault()", game.fault(), model.fault());
        same("lay()", game.lay(), model.lay());
    }

    private static String drawnText() {
        StringBuilder text = new StringBuilder();
        int columns = chance(50) ? 3 + below(4) : 1 + below(6);
        int rows = chance(50) ? 3 + below(4) : 1 + below(6);
        int bogs = below(30);
        int grass = below(80);
        StringBuilder all = new StringBuilder();
        for (int r = 0; r < rows; r++) {
            text.append('r');
            for (int c = 0; c < columns; c++) {
                char figure = chance(bogs) ? '9' : chance(grass) ? (char) ('0' + below(chance(30) ? 9 : 3)) : '0';
                text.append(figure);
                all.append(figure);
            }
            text.append(';');
        }
        int beasts = 1 + below(8);
        boolean kings = chance(35);
        for (int b = 0; b < beasts; b++) {
            int x = below(all.length());
            if (all.charAt(x) != '9' || chance(1)) {
                int kind = kings ? below(4) : below(3);
                text.append('b').append(kind).append(',').append(below(2)).append(',');
                text.append(x < 10 && chance(10) ? "0" : "").append(x).append(';');
                if (chance(99)) {
                    all.setCharAt(x, '9');
                }
            }
        }
        for (int i = 0; i < 2 && chance(70); i++) {
            text.append('w').append(below(rows * columns)).append(';');
        }
        for (int i = 0; i < 2 && chance(60); i++) {
            text.append('h').append(chance(60) ? 3 + below(7) : 1 + below(9)).append(';');
        }
        for (int i = below(chance(50) ? 2 : 11); i > 0; i--) {
            text.append('s').append(chance(70) ? 0 : 1).append(';');
        }
        if (chance(8)) {
            spoil(text);
        }
        text.setLength(Math.min(text.length(), 200));
        return text.toString();
    }

    private static void spoil(StringBuilder text) {
        int at = below(text.length());
        String signs = "rbwhs0123456789,;; x~";
        char sign = signs.charAt(below(signs.length()));
        int how = below(3);
        if (how == 0) {
            text.setCharAt(at, sign);
        } else if (how == 1) {
            text.deleteCharAt(at);
        } else {
            text.insert(at, sign);
        }
    }

    private static int someBeast() {
        return chance(3) ? below(12) - 2 : below(model.now.beasts.length);
    }

    private static int someSquare() {
        return chance(3) ? below(50) - 5 : below(model.squares());
    }

    private static int someWay() {
        return chance(3) ? below(12) - 4 : below(4);
    }

    private static int some(int from, int to) {
        return chance(6) ? from - 2 + below(to - from + 5) : from + below(to - from + 1);
    }

    private static void call() {
        int b = someBeast();
        int x = someSquare();
        int way = someWay();
        int which = below(100);
        if (which < 30) {
            driveSome();
        } else if (which < 36) {
            same("rest()", game.rest(), model.rest());
        } else if (which < 40) {
            same("undo()", game.undo(), model.undo());
        } else if (which < 43) {
            same("goes(" + b + ", " + way + ")", game.goes(b, way), model.goes(b, way));
        } else if (which < 46) {
            same("takes(" + b + ", " + way + ")", game.takes(b, way), model.takes(b, way));
        } else if (which < 50) {
            int what = some(0, 1);
            same("square(" + x + ", " + what + ")", game.square(x, what), model.square(x, what));
        } else if (which < 54) {
            int what = some(0, 3);
            same("beast(" + b + ", " + what + ")", game.beast(b, what), model.beast(b, what));
        } else if (which < 60) {
            int what = some(0, 12);
            same("count(" + what + ")", game.count(what), model.count(what));
        } else {
            ask(which, b, x);
        }
    }

    /** Drives that can be are drawn more often than any. */
    private static void driveSome() {
        if (model.lost(model.now) != 0 && chance(60) || model.there(model.now, 0) + model.there(model.now, 1) == 0) {
            same("undo()", game.undo(), model.undo());
            return;
        }
        int b = someBeast();
        int way = someWay();
        for (int i = 0; i < 60 && model.after(model.now, 10 * Math.max(b, 0) + Math.max(way, 0)) == null; i++) {
            b = someBeast();
            way = someWay();
        }
        same("drive(" + b + ", " + way + ")", game.drive(b, way), model.drive(b, way));
    }

    private static void ask(int which, int b, int x) {
        if (which < 66) {
            int k = some(-1, 4);
            same("fewest(" + b + ", " + x + ", " + k + ")", game.fewest(b, x, k), model.fewest(b, x, k));
        } else if (which < 69) {
            int n = some(0, 6);
            same("stray(" + b + ", " + n + ")", game.stray(b, n), model.stray(b, n));
        } else if (which < 73) {
            int v = chance(5) ? below(6) - 2 : below(2);
            int k = some(-1, 2);
            same("summer(" + v + ", " + k + ")", game.summer(v, k), model.summer(v, k));
        } else if (which < 76) {
            int n = some(1, chance(20) ? 3 : 2);
            int what = some(0, 1);
            same("game(" + n + ", " + what + ")", game.game(n, what), model.game(n, what));
        } else if (which < 79) {
            same("again(" + x + ")", game.again(x), model.again(x));
        } else if (which < 82) {
            same("starves(" + b + ")", game.starves(b), model.starves(b));
        } else if (which < 88) {
            int what = some(0, 1);
            int near = chance(60) ? Math.max(0, model.beast(b, 2)) : x;
            same("otherwise(" + b + ", " + near + ", " + what + ")", game.otherwise(b, near, what),
                model.otherwise(b, near, what));
        } else if (which < 91) {
            int n = some(0, chance(10) ? 8 : 4);
            int of = some(0, 10);
            int part = some(0, 1);
            same("wolves(" + b + ", " + n + ", " + of + ", " + part + ")", game.wolves(b, n, of, part),
                model.wolves(b, n, of, part));
        } else if (which < 95) {
            int z = some(0, 9999);
            int n = some(1, 60);
            int what = some(0, 1);
            same("season(" + z + ", " + n + ", " + what + ")", game.season(z, n, what), model.season(z, n, what));
        } else if (which < 97) {
            same("keep()", game.keep(), model.keep());
        } else if (which < 98) {
            same("back()", game.back(), model.back());
        } else {
            layAnew();
        }
    }

    private static void layAnew() {
        int which = below(4);
        if (which == 0) {
            same("wipe()", game.wipe(), model.wipe());
        } else if (which == 1) {
            int letter = chance(50) ? 30 + below(100) : "rbwhs0123456789,;".charAt(below(17));
            same("write(" + letter + ")", game.write(letter), model.write(letter));
        } else if (which == 2) {
            same("fault()", game.fault(), model.fault());
        } else if (chance(20)) {
            same("lay()", game.lay(), model.lay());
        }
    }
}

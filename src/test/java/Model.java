import java.math.BigInteger;
import java.util.ArrayList;
import java.util.Arrays;
import java.util.HashSet;
import java.util.List;
import java.util.Map;
import java.util.Set;
import java.util.TreeMap;
import java.util.regex.Matcher;
import java.util.regex.Pattern;

/**
 * The document told a second time, as plainly and wastefully as can be: whole rows and columns, new states for each
 * day, every way tried to its end. ModelTests asks it and SheepChess the same.
 */
final class Model {
    static final int BAD = -1, NO = -2, FULL = -3, NONE = -4;
    static final int[] DOWN = {-1, 0, 1, 0}, ALONG = {0, 1, 0, -1};

    static final class Beast {
        int kind, village, row, column, hunger;
        boolean off;

        Beast twin() {
            Beast t = new Beast();
            t.kind = kind;
            t.village = village;
            t.row = row;
            t.column = column;
            t.hunger = hunger;
            t.off = off;
            return t;
        }
    }

    static final class State {
        int[][] grass;
        Beast[] beasts;
        int day;

        State twin() {
            State t = new State();
            t.grass = new int[grass.length][];
            for (int i = 0; i < grass.length; i++) {
                t.grass[i] = grass[i].clone();
            }
            t.beasts = new Beast[beasts.length];
            for (int i = 0; i < beasts.length; i++) {
                t.beasts[i] = beasts[i].twin();
            }
            t.day = day;
            return t;
        }

        Beast at(int row, int column) {
            for (Beast b : beasts) {
                if (!b.off && b.row == row && b.column == column) {
                    return b;
                }
            }
            return null;
        }

        boolean isIn(int row, int column) {
            return row >= 0 && row < grass.length && column >= 0 && column < grass[0].length;
        }
    }

    static final class Laid {
        State state;
        int well = NONE, bears = 4;
        List<Integer> snows = new ArrayList<>();
        boolean[] hadKing = new boolean[2];
    }

    String text = "";
    Laid laid;
    State now;
    List<State> stood = new ArrayList<>();
    List<Integer> told = new ArrayList<>();
    List<State> kept = new ArrayList<>();

    Model() {
        text = "r01203;r30092;r00410;r29000;r00130;b0,0,22;b1,0,20;b2,0,21;b3,0,24;b0,1,2;b1,1,4;b2,1,1;b3,1,0;"
            + "w7;h3;s0;s0;s0;s1;";
        lay();
        text = "";
    }

    // ---- the text

    /** The laid meadow, or where the fault is. */
    Object read() {
        List<String> rows = new ArrayList<>();
        List<int[]> beasts = new ArrayList<>();
        Laid l = new Laid();
        int place = 0;
        Pattern item = Pattern.compile("r([0-9]{1,6});|b(\\d\\d?),(\\d\\d?),(\\d\\d?);|w(\\d\\d?);|h(\\d\\d?);|s(\\d\\d?);");
        while (place < text.length()) {
            Matcher m = item.matcher(text.substring(place));
            if (!m.lookingAt()) {
                return place;
            }
            String all = String.join("", rows);
            if (m.group(1) != null) {
                if (rows.size() == 6 || !rows.isEmpty() && rows.get(0).length() != m.group(1).length()) {
                    return place;
                }
                rows.add(m.group(1));
            } else if (m.group(2) != null) {
                int k = Integer.parseInt(m.group(2)), v = Integer.parseInt(m.group(3)), x = Integer.parseInt(m.group(4));
                if (k > 3 || v > 1 || x >= all.length() || all.charAt(x) == '9' || beasts.size() == 8) {
                    return place;
                }
                for (int[] b : beasts) {
                    if (b[2] == x) {
                        return place;
                    }
                }
                beasts.add(new int[] {k, v, x});
            } else if (m.group(5) != null) {
                int x = Integer.parseInt(m.group(5));
                if (x >= all.length() || all.charAt(x) == '9') {
                    return place;
                }
                l.well = x;
            } else if (m.group(6) != null) {
                int h = Integer.parseInt(m.group(6));
                if (h < 1 || h > 9) {
                    return place;
                }
                l.bears = h;
            } else {
                int s = Integer.parseInt(m.group(7));
                if (s > 1 || l.snows.size() == 9) {
                    return place;
                }
                l.snows.add(s);
            }
            place += m.end();
        }
        State s = new State();
        s.grass = new int[rows.size()][];
        for (int i = 0; i < rows.size(); i++) {
            s.grass[i] = rows.get(i).chars().map(c -> c - '0').toArray();
        }
        s.beasts = new Beast[beasts.size()];
        for (int i = 0; i < beasts.size(); i++) {
            int[] b = beasts.get(i);
            Beast beast = new Beast();
            beast.kind = b[0];
            beast.village = b[1];
            beast.row = b[2] / rows.get(0).length();
            beast.column = b[2] % rows.get(0).length();
            s.beasts[i] = beast;
            if (b[0] == 3) {
                l.hadKing[b[1]] = true;
            }
        }
        l.state = s;
        return l;
    }

    int write(int letter) {
        if (letter < 32 || letter > 126) {
            return BAD;
        }
        if (text.length() == 200) {
            return FULL;
        }
        text = text + (char) letter;
        return text.length();
    }

    int wipe() {
        int had = text.length();
        text = "";
        return had;
    }

    int fault() {
        Object found = read();
        return found instanceof Integer ? (Integer) found : NONE;
    }

    int lay() {
        Object found = read();
        if (found instanceof Integer || ((Laid) found).state.beasts.length == 0) {
            return NO;
        }
        laid = (Laid) found;
        now = laid.state.twin();
        stood.clear();
        told.clear();
        kept.clear();
        return now.beasts.length;
    }

    // ---- how it goes

    int columns() {
        return now.grass[0].length;
    }

    int squares() {
        return now.grass.length * columns();
    }

    boolean snows(State s) {
        return !laid.snows.isEmpty() && laid.snows.get(s.day % laid.snows.size()) == 1;
    }

    /** Whether a beast can step there, and there alone. */
    boolean can(State s, Beast b, int row, int column, boolean noTaking) {
        if (!s.isIn(row, column) || s.grass[row][column] == 9) {
            return false;
        }
        Beast other = s.at(row, column);
        if (other != null && (other.village == b.village || noTaking || b.kind == 2)) {
            return false;
        }
        if (b.kind == 3) {
            for (int way = 0; way < 4; way++) {
                Beast ram = s.at(row + DOWN[way], column + ALONG[way]);
                if (ram != null && ram.kind == 0 && ram.village != b.village) {
                    return false;
                }
            }
        }
        return true;
    }

    /** The squares come to, the last one of them where it stays; null where it can not go. */
    int[] to(State s, int n, int way, boolean noTaking) {
        Beast b = s.beasts[n];
        if (b.off || b.kind == 2 && way != 2 * b.village) {
            return null;
        }
        int row = b.row, column = b.column;
        while (true) {
            if (!can(s, b, row + DOWN[way], column + ALONG[way], noTaking)) {
                break;
            }
            row += DOWN[way];
            column += ALONG[way];
            if (b.kind != 0 || s.grass[row][column] > 0 || s.at(row, column) != null) {
                break;
            }
        }
        return row == b.row && column == b.column ? null : new int[] {row, column};
    }

    /** The day behind this one with a drive (99: resting); null where that drive can not be. */
    State after(State s, int drive) {
        State t = s.twin();
        if (drive != 99) {
            if (drive / 10 >= t.beasts.length || drive % 10 > 3 || t.beasts[drive / 10].village != s.day % 2) {
                return null;
            }
            int[] to = to(s, drive / 10, drive % 10, snows(s));
            if (to == null) {
                return null;
            }
            go(t, drive / 10, to);
        }
        grazeAll(t);
        grow(t);
        return t;
    }

    void go(State t, int n, int[] to) {
        Beast taken = t.at(to[0], to[1]);
        if (taken != null) {
            taken.off = true;
        }
        Beast b = t.beasts[n];
        b.row = to[0];
        b.column = to[1];
        if (b.kind == 2 && b.row == (b.village == 0 ? 0 : t.grass.length - 1)) {
            b.kind = 1;
        }
    }

    void grazeAll(State t) {
        for (Beast b : t.beasts) {
            if (b.off) {
                continue;
            }
            if (t.grass[b.row][b.column] > 0) {
                t.grass[b.row][b.column]--;
                b.hunger = 0;
            } else if (++b.hunger > laid.bears) {
                b.off = true;
            }
        }
    }

    void grow(State t) {
        t.day++;
        if (t.day % 9 == 0) {
            for (int r = 0; r < t.grass.length; r++) {
                for (int c = 0; c < t.grass[r].length; c++) {
                    if (t.grass[r][c] < 8 && t.at(r, c) == null) {
                        t.grass[r][c]++;
                    }
                }
            }
        }
    }

    int lost(State s) {
        boolean[] have = new boolean[2];
        for (Beast b : s.beasts) {
            if (!b.off && b.kind == 3) {
                have[b.village] = true;
            }
        }
        return (laid.hadKing[0] && !have[0] ? 1 : 0) + (laid.hadKing[1] && !have[1] ? 2 : 0);
    }

    int worth(State s) {
        int sum = 0;
        for (Beast b : s.beasts) {
            if (!b.off) {
                int its = b.kind == 0 ? 5 : b.kind == 1 ? 3 : b.kind == 2 ? 1 : 20;
                sum += b.village == 0 ? its : -its;
            }
        }
        return sum;
    }

    int there(State s, int village) {
        int sum = 0;
        for (Beast b : s.beasts) {
            sum += !b.off && b.village == village ? 1 : 0;
        }
        return sum;
    }

    int number(State s, int row, int column) {
        return row * s.grass[0].length + column;
    }

    boolean noBeast(int b) {
        return b < 0 || b >= now.beasts.length;
    }

    boolean noSquare(int x) {
        return x < 0 || x >= squares();
    }

    // ---- asking and telling

    int square(int x, int what) {
        if (noSquare(x) || what != 0 && what != 1) {
            return BAD;
        }
        int row = x / columns(), column = x % columns();
        if (what == 0) {
            return now.grass[row][column];
        }
        Beast b = now.at(row, column);
        return b == null ? NONE : Arrays.asList(now.beasts).indexOf(b);
    }

    int beast(int b, int what) {
        if (noBeast(b) || what < 0 || what > 3) {
            return BAD;
        }
        Beast it = now.beasts[b];
        int place = it.off ? NONE : number(now, it.row, it.column);
        return what == 0 ? it.kind : what == 1 ? it.village : what == 2 ? place : it.hunger;
    }

    int goes(int b, int way) {
        if (noBeast(b) || way < 0 || way > 3) {
            return BAD;
        }
        if (now.beasts[b].off) {
            return NO;
        }
        int[] to = to(now, b, way, snows(now));
        return to == null ? NONE : number(now, to[0], to[1]);
    }

    int takes(int b, int way) {
        int to = goes(b, way);
        return to < 0 ? to : square(to, 1);
    }

    int drive(int b, int way) {
        if (noBeast(b) || way < 0 || way > 3) {
            return BAD;
        }
        State next = lost(now) != 0 ? null : after(now, 10 * b + way);
        if (next == null) {
            return NO;
        }
        int to = goes(b, way);
        stood.add(now);
        told.add(10 * b + way);
        now = next;
        return to;
    }

    int rest() {
        if (lost(now) != 0) {
            return NO;
        }
        stood.add(now);
        told.add(99);
        now = after(now, 99);
        return now.day;
    }


    int undoable() {
        while (stood.size() > 8) {
            stood.remove(0);
            told.remove(0);
        }
        return stood.size();
    }

    int undo() {
        if (undoable() == 0) {
            return NO;
        }
        now = stood.remove(stood.size() - 1);
        told.remove(told.size() - 1);
        return undoable();
    }

    /** By square and kind, the first of the shortest rows of ways, layer by layer. */
    List<Map<String, String>> layers(int b, int most) {
        List<Map<String, String>> layers = new ArrayList<>();
        Map<String, String> layer = new TreeMap<>();
        Set<String> seen = new HashSet<>();
        Beast it = now.beasts[b];
        layer.put(it.row + " " + it.column + " " + it.kind, "");
        for (int d = 0; d <= most; d++) {
            layers.add(layer);
            seen.addAll(layer.keySet());
            Map<String, String> next = new TreeMap<>();
            for (Map.Entry<String, String> e : layer.entrySet()) {
                String[] told = e.getKey().split(" ");
                for (int way = 0; way < 4; way++) {
                    State s = now.twin();
                    s.beasts[b].row = Integer.parseInt(told[0]);
                    s.beasts[b].column = Integer.parseInt(told[1]);
                    s.beasts[b].kind = Integer.parseInt(told[2]);
                    int[] to = to(s, b, way, true);
                    if (to == null) {
                        continue;
                    }
                    go(s, b, to);
                    String key = to[0] + " " + to[1] + " " + s.beasts[b].kind;
                    String ways = e.getValue() + way;
                    if (!seen.contains(key) && (!next.containsKey(key) || next.get(key).compareTo(ways) > 0)) {
                        next.put(key, ways);
                    }
                }
            }
            layer = next;
        }
        return layers;
    }

    int fewest(int b, int x, int k) {
        if (noBeast(b) || noSquare(x) || k < -1) {
            return BAD;
        }
        if (now.beasts[b].off) {
            return NO;
        }
        for (Map<String, String> layer : layers(b, 12)) {
            String best = null;
            for (Map.Entry<String, String> e : layer.entrySet()) {
                String[] told = e.getKey().split(" ");
                boolean there = number(now, Integer.parseInt(told[0]), Integer.parseInt(told[1])) == x;
                if (there && (best == null || e.getValue().compareTo(best) < 0)) {
                    best = e.getValue();
                }
            }
            if (best != null) {
                return k == -1 ? best.length() : k < best.length() ? best.charAt(k) - '0' : NONE;
            }
        }
        return NONE;
    }

    int stray(int b, int n) {
        if (noBeast(b) || n < 0 || n > 6) {
            return BAD;
        }
        if (now.beasts[b].off) {
            return NO;
        }
        Set<String> squares = new HashSet<>();
        for (Map<String, String> layer : layers(b, n)) {
            for (String key : layer.keySet()) {
                squares.add(key.substring(0, key.lastIndexOf(' ')));
            }
        }
        return squares.size();
    }

    /** What the village does on its days, of the first way of so many days; null: there is none. */
    List<Integer> summerOf(State s, int v, int days) {
        if (days == 0) {
            for (Beast b : s.beasts) {
                if (!b.off && b.kind == 0 && b.village == v && number(s, b.row, b.column) == laid.well) {
                    return new ArrayList<>();
                }
            }
            return null;
        }
        if (lost(s) != 0) {
            return null;
        }
        boolean own = s.day % 2 == v;
        for (int drive = own ? 0 : 99; drive <= 99; drive++) {
            State t = after(s, drive);
            if (t == null || there(t, v) < there(s, v)) {
                continue;
            }
            List<Integer> way = summerOf(t, v, days - 1);
            if (way != null) {
                if (own) {
                    way.add(0, drive);
                }
                return way;
            }
        }
        return null;
    }

    int summer(int v, int k) {
        if (v != 0 && v != 1 || k < -1) {
            return BAD;
        }
        if (laid.well == NONE) {
            return NO;
        }
        for (int days = 0; days <= 5; days++) {
            List<Integer> way = summerOf(now, v, days);
            if (way != null) {
                return k == -1 ? days : k < way.size() ? way.get(k) : NONE;
            }
        }
        return NONE;
    }

    /** The worth behind so many days, and the first drive. */
    int[] gameOf(State s, int n) {
        if (n == 0 || lost(s) != 0) {
            return new int[] {worth(s), NONE};
        }
        List<int[]> all = new ArrayList<>();
        for (int drive = 0; drive <= 99; drive++) {
            State t = after(s, drive);
            if (t != null) {
                all.add(new int[] {gameOf(t, n - 1)[0], drive});
            }
        }
        int sign = s.day % 2 == 0 ? -1 : 1;
        all.sort((a, b) -> a[0] != b[0] ? sign * Integer.compare(a[0], b[0]) : Integer.compare(a[1], b[1]));
        return all.get(0);
    }

    int game(int n, int what) {
        if (n < 1 || n > 3 || what != 0 && what != 1) {
            return BAD;
        }
        if (lost(now) != 0) {
            return NO;
        }
        int[] found = gameOf(now, n);
        return what == 0 ? found[0] + 100 : found[1];
    }

    State rested(int days) {
        State s = now;
        for (int i = 0; i < days; i++) {
            s = after(s, 99);
        }
        return s;
    }

    int again(int x) {
        if (noSquare(x)) {
            return BAD;
        }
        if (now.grass[x / columns()][x % columns()] == 9) {
            return NO;
        }
        for (int days = 0; days <= 60; days++) {
            if (rested(days).grass[x / columns()][x % columns()] > 0) {
                return days;
            }
        }
        return NONE;
    }

    int starves(int b) {
        if (noBeast(b)) {
            return BAD;
        }
        if (now.beasts[b].off) {
            return NO;
        }
        for (int days = 1; days <= 60; days++) {
            if (rested(days).beasts[b].off) {
                return days;
            }
        }
        return NONE;
    }

    int otherwise(int b, int x, int what) {
        if (noBeast(b) || noSquare(x) || what != 0 && what != 1) {
            return BAD;
        }
        List<Integer> found = new ArrayList<>();
        for (int k = 0; k < undoable(); k++) {
            int i = stood.size() - 1 - k;
            for (int drive = 0; drive <= 99; drive++) {
                boolean same = drive == told.get(i);
                boolean another = told.get(i) != 99 && drive != 99 && drive / 10 != told.get(i) / 10;
                State s = same || another ? null : after(stood.get(i), drive);
                for (int j = i + 1; s != null && j < stood.size(); j++) {
                    State t = lost(s) != 0 ? null : after(s, told.get(j));
                    s = t == null ? after(s, 99) : t;
                }
                if (s != null && !s.beasts[b].off && number(s, s.beasts[b].row, s.beasts[b].column) == x) {
                    found.add(100 * k + drive);
                }
            }
        }
        return what == 0 ? found.size() : found.isEmpty() ? NONE : found.get(0);
    }

    int wolves(int b, int n, int x, int part) {
        if (noBeast(b) || n < 0 || n > 8 || x < 0 || x > 10 || part != 0 && part != 1) {
            return BAD;
        }
        if (now.beasts[b].off) {
            return NO;
        }
        BigInteger above = BigInteger.ZERO;
        for (int comes = 0; comes < 1 << n; comes++) {
            State s = now.twin();
            BigInteger weight = BigInteger.ONE;
            for (int day = 0; day < n; day++) {
                boolean wolf = (comes >> day & 1) == 1;
                weight = weight.multiply(BigInteger.valueOf(wolf ? x : 10 - x));
                grazeAll(s);
                if (wolf) {
                    takeByBog(s);
                }
                grow(s);
            }
            if (!s.beasts[b].off) {
                above = above.add(weight);
            }
        }
        BigInteger below = BigInteger.TEN.pow(n);
        BigInteger share = above.gcd(below);
        return (part == 0 ? above : below).divide(share).intValueExact();
    }

    void takeByBog(State s) {
        for (Beast b : s.beasts) {
            for (int way = 0; !b.off && way < 4; way++) {
                int row = b.row + DOWN[way], column = b.column + ALONG[way];
                if (s.isIn(row, column) && s.grass[row][column] == 9) {
                    b.off = true;
                    return;
                }
            }
        }
    }

    int season(int z, int n, int what) {
        if (z < 0 || z > 9999 || n < 1 || n > 60 || what != 0 && what != 1) {
            return BAD;
        }
        State s = now;
        for (int k = 0; k < n && lost(s) == 0; k++) {
            BigInteger x = BigInteger.valueOf(7919L * z + 6151L * k + 1);
            int draw = x.pow(2).mod(BigInteger.valueOf(65521)).intValueExact();
            State t = after(s, 10 * ((draw / 8) % s.beasts.length) + (draw / 64) % 4);
            s = t == null ? after(s, 99) : t;
        }
        return what == 0 ? worth(s) + 100 : there(s, 0) + there(s, 1);
    }

    int keep() {
        if (kept.size() == 2) {
            return FULL;
        }
        kept.add(now);
        return kept.size();
    }

    int back() {
        if (kept.isEmpty()) {
            return NO;
        }
        now = kept.remove(kept.size() - 1);
        stood.clear();
        told.clear();
        return kept.size();
    }

    int count(int what) {
        int grass = 0;
        for (int[] row : now.grass) {
            for (int g : row) {
                grass += g == 9 ? 0 : g;
            }
        }
        int[] all = {squares(), columns(), now.beasts.length, now.day, there(now, 0), there(now, 1), worth(now) + 100,
            lost(now), grass, laid.bears, undoable(), kept.size(), text.length()};
        return what >= 0 && what < all.length ? all[what] : BAD;
    }
}

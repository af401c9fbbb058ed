/** The game by sheep on the high meadow, as ../shared/DOC.md tells it. */
public final class SheepChess {
    public static final int BAD = -1, NO = -2, FULL = -3, NONE = -4;

    private static final int RAM = 0, EWE = 1, PAWN = 2, KING = 3;
    private static final int[] WORTHS = {5, 3, 1, 20};
    private static final int BOG = 9, HIGHEST = 8, GROWTH = 9, BEARS = 4;
    private static final int WAYS = 4, NORTH = 0, EAST = 1, SOUTH = 2, WEST = 3;
    private static final int RESTING = 99, TENTHS = 10, EVEN = 100;
    private static final int MOST_LETTERS = 200, MOST_SIDE = 6, MOST_SQUARES = 36;
    private static final int MOST_BEASTS = 8, MOST_SNOWS = 9, MOST_UNDONE = 8, MOST_KEPT = 2;
    private static final int MOST_DRIVES = 12, MOST_STRAY = 6, MOST_SUMMER = 5, MOST_GAME = 3;
    private static final int MOST_RESTS = 60, MOST_WOLVES = 8, MOST_SEASON = 60, MOST_DRAW = 9999;
    private static final String FIRST = "r01203;r30092;r00410;r29000;r00130;b0,0,22;b1,0,20;b2,0,21;b3,0,24;b0,1,2;b1,1,4;b2,1,1;b3,1,0;w7;h3;s0;s0;s0;s1;";

    private final Land land = new Land();
    private final Sheet sheet = new Sheet();
    private final Meadow now = new Meadow(land);
    private final Meadow spare = new Meadow(land);
    private final Past past = new Past(land);
    private final Pile kept = new Pile(land, MOST_KEPT);
    private final Walk walk = new Walk(land);
    private final Ahead ahead = new Ahead(land);
    private int keptNow = 0;

    public SheepChess() {
        for (int i = 0; i < FIRST.length(); i++) {
            sheet.add(FIRST.charAt(i));
        }
        begin();
        sheet.length = 0;
    }

    // ---- meadows

    public int write(int letter) {
        if (letter < 32 || letter > 126) {
            return BAD;
        }
        return sheet.add(letter) ? sheet.length : FULL;
    }

    public int wipe() {
        int had = sheet.length;
        sheet.length = 0;
        return had;
    }

    public int fault() {
        return sheet.firstFault();
    }

    public int lay() {
        return begin() ? land.beasts : NO;
    }

    public int square(int x, int what) {
        if (!land.hasSquare(x) || what < 0 || what > 1) {
            return BAD;
        }
        return what == 0 ? now.grassOn(x) : now.occupant(x);
    }

    public int beast(int b, int what) {
        if (!land.hasBeast(b)) {
            return BAD;
        }
        switch (what) {
            case 0: return now.kindOf(b);
            case 1: return land.villageOf(b);
            case 2: return now.placeOf(b);
            case 3: return now.hungerOf(b);
            default: return BAD;
        }
    }

    public int goes(int b, int way) {
        if (!land.hasBeast(b) || !isWay(way)) {
            return BAD;
        }
        return now.isOff(b) ? NO : now.reach(b, way, now.snowing());
    }

    public int takes(int b, int way) {
        if (!land.hasBeast(b) || !isWay(way)) {
            return BAD;
        }
        return now.isOff(b) ? NO : now.occupant(now.reach(b, way, now.snowing()));
    }

    // ---- days

    public int drive(int b, int way) {
        if (!land.hasBeast(b) || !isWay(way)) {
            return BAD;
        }
        int to = now.driven(b, way);
        if (to == NONE || now.lost() != 0) {
            return NO;
        }
        past.add(now, 10 * b + way);
        now.move(b, to);
        now.passDay();
        return to;
    }

    public int rest() {
        if (now.lost() != 0) {
            return NO;
        }
        past.add(now, RESTING);
        now.passDay();
        return now.day;
    }

    public int undo() {
        if (past.days < 1) {
            return NO;
        }
        past.days--;
        now.copyFrom(past.before(past.days));
        return past.days;
    }

    // ---- what can be

    public int fewest(int b, int x, int k) {
        if (!land.hasBeast(b) || !land.hasSquare(x) || k < -1) {
            return BAD;
        }
        if (now.isOff(b)) {
            return NO;
        }
        walk.from(now, b);
        int end = walk.first(x);
        return k == -1 ? walk.drivesTo(end) : walk.wayTo(end, k);
    }

    public int stray(int b, int n) {
        if (!land.hasBeast(b) || n < 0 || n > MOST_STRAY) {
            return BAD;
        }
        if (now.isOff(b)) {
            return NO;
        }
        walk.from(now, b);
        return walk.squaresWithin(n);
    }

    public int summer(int v, int k) {
        if (!isVillage(v) || k < -1) {
            return BAD;
        }
        if (land.well == NONE) {
            return NO;
        }
        int days = ahead.daysToWell(now, v);
        return days == NONE || k == -1 ? days : ahead.onOwnDay(k);
    }

    public int game(int n, int what) {
        if (n < 1 || n > MOST_GAME || what < 0 || what > 1) {
            return BAD;
        }
        if (now.lost() != 0) {
            return NO;
        }
        int worth = ahead.worthBehind(now, n);
        return what == 0 ? worth + EVEN : ahead.best;
    }

    public int again(int x) {
        if (!land.hasSquare(x)) {
            return BAD;
        }
        if (now.grassOn(x) == BOG) {
            return NO;
        }
        spare.copyFrom(now);
        for (int days = 0; days <= MOST_RESTS; days++) {
            if (spare.grassOn(x) > 0) {
                return days;
            }
            spare.passDay();
        }
        return NONE;
    }

    public int starves(int b) {
        if (!land.hasBeast(b)) {
            return BAD;
        }
        if (now.isOff(b)) {
            return NO;
        }
        spare.copyFrom(now);
        for (int days = 1; days <= MOST_RESTS; days++) {
            spare.passDay();
            if (spare.isOff(b)) {
                return days;
            }
        }
        return NONE;
    }

    // ---- what was told

    public int otherwise(int b, int x, int what) {
        if (!land.hasBeast(b) || !land.hasSquare(x) || what < 0 || what > 1) {
            return BAD;
        }
        int found = 0;
        int first = NONE;
        for (int k = 0; k < past.days; k++) {
            for (int told = 0; told <= RESTING; told++) {
                if (past.otherwiseIs(k, told, spare) && spare.placeOf(b) == x) {
                    found++;
                    first = first == NONE ? 100 * k + told : first;
                }
            }
        }
        return what == 0 ? found : first;
    }

    // ---- wolves, seasons

    public int wolves(int b, int n, int x, int part) {
        boolean told = land.hasBeast(b) && n >= 0 && n <= MOST_WOLVES && x >= 0 && x <= TENTHS;
        if (!told || part < 0 || part > 1) {
            return BAD;
        }
        if (now.isOff(b)) {
            return NO;
        }
        long all = 1;
        for (int day = 0; day < n; day++) {
            all *= TENTHS;
        }
        long staying = ahead.staying(now, b, n, x);
        long share = commonPart(staying, all);
        return share < 1 ? NONE : (int) ((part == 0 ? staying : all) / share);
    }

    public int season(int z, int n, int what) {
        if (z < 0 || z > MOST_DRAW || n < 1 || n > MOST_SEASON || what < 0 || what > 1) {
            return BAD;
        }
        spare.copyFrom(now);
        for (int k = 0; k < n && spare.lost() == 0; k++) {
            int draw = draw(z, k);
            int b = land.beasts < 1 ? 0 : draw / 8 % land.beasts;
            spare.live(10 * b + draw / 64 % WAYS);
        }
        return what == 0 ? spare.worth() + EVEN : spare.staying(0) + spare.staying(1);
    }

    public int keep() {
        if (keptNow >= MOST_KEPT) {
            return FULL;
        }
        kept.get(keptNow).copyFrom(now);
        keptNow++;
        return keptNow;
    }

    public int back() {
        if (keptNow < 1) {
            return NO;
        }
        keptNow--;
        now.copyFrom(kept.get(keptNow));
        past.days = 0;
        return keptNow;
    }

    public int count(int what) {
        switch (what) {
            case 0: return land.squares;
            case 1: return land.width;
            case 2: return land.beasts;
            case 3: return now.day;
            case 4: return now.staying(0);
            case 5: return now.staying(1);
            case 6: return now.worth() + EVEN;
            case 7: return now.lost();
            case 8: return now.allGrass();
            case 9: return land.bears;
            case 10: return past.days;
            case 11: return keptNow;
            case 12: return sheet.length;
            default: return BAD;
        }
    }

    /** Lays THE TEXT, if it is one that can be laid. */
    private boolean begin() {
        if (sheet.firstFault() != NONE || sheet.land.beasts < 1) {
            return false;
        }
        land.copyFrom(sheet.land);
        now.copyFrom(sheet.meadow);
        past.days = 0;
        keptNow = 0;
        return true;
    }

    private static boolean isWay(int way) {
        return way >= 0 && way < WAYS;
    }

    private static boolean isVillage(int v) {
        return v == 0 || v == 1;
    }

    private static int draw(int z, int k) {
        long x = 7919L * z + 6151L * k + 1;
        return (int) (x * x % 65521);
    }

    /** The greatest number that parts both; of 0 and another, the other. */
    private static long commonPart(long one, long other) {
        long a = one;
        long b = other;
        for (int i = 0; i < 100 && b != 0; i++) {
            long left = a % b;
            a = b;
            b = left;
        }
        return a;
    }

    /** What stays as it was laid. */
    private static final class Land {
        int squares = 0;
        int width = 0;
        int rows = 0;
        int beasts = 0;
        int well = NONE;
        int bears = BEARS;
        int snows = 0;
        final int[] village = new int[MOST_BEASTS];
        final int[] snow = new int[MOST_SNOWS];

        void clear() {
            squares = 0;
            width = 0;
            rows = 0;
            beasts = 0;
            well = NONE;
            bears = BEARS;
            snows = 0;
        }

        void copyFrom(Land other) {
            squares = other.squares;
            width = other.width;
            rows = other.rows;
            beasts = other.beasts;
            well = other.well;
            bears = other.bears;
            snows = other.snows;
            System.arraycopy(other.village, 0, village, 0, MOST_BEASTS);
            System.arraycopy(other.snow, 0, snow, 0, MOST_SNOWS);
        }

        boolean hasSquare(int x) {
            return x >= 0 && x < squares && x < MOST_SQUARES;
        }

        boolean hasBeast(int b) {
            return b >= 0 && b < beasts && b < MOST_BEASTS;
        }

        int villageOf(int b) {
            return b >= 0 && b < beasts && b < MOST_BEASTS ? village[b] : NONE;
        }

        boolean snowsOn(int day) {
            if (snows < 1 || snows > MOST_SNOWS || day < 0) {
                return false;
            }
            return snow[day % snows] == 1;
        }

        /** The square next to one, that way; NONE where the meadow ends. */
        int beside(int x, int way) {
            if (x < 0 || x >= squares || width < 1) {
                return NONE;
            }
            switch (way) {
                case NORTH: return x < width ? NONE : x - width;
                case EAST: return x % width == width - 1 ? NONE : x + 1;
                case SOUTH: return x + width >= squares ? NONE : x + width;
                case WEST: return x % width == 0 ? NONE : x - 1;
                default: return NONE;
            }
        }

        /** Whether a pawn of that village is an ewe once it has come to that square. */
        boolean turnsPawn(int v, int x) {
            return v == 0 ? x < width : x >= squares - width;
        }
    }

    /** What the days change. */
    private static final class Meadow {
        final Land land;
        final int[] grass = new int[MOST_SQUARES];
        final int[] place = new int[MOST_BEASTS];
        final int[] kind = new int[MOST_BEASTS];
        final int[] hunger = new int[MOST_BEASTS];
        int day = 0;

        Meadow(Land land) {
            this.land = land;
        }

        void copyFrom(Meadow other) {
            System.arraycopy(other.grass, 0, grass, 0, MOST_SQUARES);
            System.arraycopy(other.place, 0, place, 0, MOST_BEASTS);
            System.arraycopy(other.kind, 0, kind, 0, MOST_BEASTS);
            System.arraycopy(other.hunger, 0, hunger, 0, MOST_BEASTS);
            day = other.day;
        }

        /** How high; outside of the squares as on a bog, where nobody can go either. */
        int grassOn(int x) {
            return x >= 0 && x < land.squares && x < MOST_SQUARES ? grass[x] : BOG;
        }

        int kindOf(int b) {
            return b >= 0 && b < land.beasts && b < MOST_BEASTS ? kind[b] : NONE;
        }

        int placeOf(int b) {
            return b >= 0 && b < land.beasts && b < MOST_BEASTS ? place[b] : NONE;
        }

        int hungerOf(int b) {
            return b >= 0 && b < land.beasts && b < MOST_BEASTS ? hunger[b] : NONE;
        }

        boolean isOff(int b) {
            return placeOf(b) == NONE;
        }

        int turn() {
            return day & 1;
        }

        boolean snowing() {
            return land.snowsOn(day);
        }

        int occupant(int x) {
            if (x < 0) {
                return NONE;
            }
            for (int b = 0; b < land.beasts && b < MOST_BEASTS; b++) {
                if (place[b] == x) {
                    return b;
                }
            }
            return NONE;
        }

        void put(int b, int x, int asKind) {
            if (land.hasBeast(b)) {
                place[b] = x;
                kind[b] = asKind;
            }
        }

        /** Where a beast would come to; in peace nobody can be taken. NONE: it can not. */
        int reach(int b, int way, boolean peace) {
            int goer = kindOf(b);
            if (isOff(b) || goer == PAWN && way != (land.villageOf(b) == 0 ? NORTH : SOUTH)) {
                return NONE;
            }
            int to = NONE;
            int next = land.beside(placeOf(b), way);
            for (int step = 0; step < MOST_SIDE && isOpen(b, next, peace); step++) {
                to = next;
                if (goer != RAM || grassOn(to) > 0 || occupant(to) != NONE) {
                    return to;
                }
                next = land.beside(to, way);
            }
            return to;
        }

        private boolean isOpen(int b, int x, boolean peace) {
            if (grassOn(x) == BOG) {
                return false;
            }
            int village = land.villageOf(b);
            int other = occupant(x);
            if (other != NONE && (peace || kindOf(b) == PAWN || land.villageOf(other) == village)) {
                return false;
            }
            return kindOf(b) != KING || !ramBeside(x, 1 - village);
        }

        private boolean ramBeside(int x, int v) {
            int width = land.width;
            for (int b = 0; b < land.beasts && b < MOST_BEASTS && width > 0; b++) {
                if (place[b] >= 0 && kind[b] == RAM && land.village[b] == v) {
                    int rows = Math.abs(place[b] / width - x / width);
                    int columns = Math.abs(place[b] % width - x % width);
                    if (rows + columns == 1) {
                        return true;
                    }
                }
            }
            return false;
        }

        /** Where a beast would come to on this day, if it is of the day's village. NONE: it can not. */
        int driven(int b, int way) {
            return land.villageOf(b) == turn() ? reach(b, way, snowing()) : NONE;
        }

        /** Puts a beast where it can be driven; whoever is there is taken. */
        void move(int b, int to) {
            int taken = occupant(to);
            if (land.hasBeast(taken)) {
                place[taken] = NONE;
            }
            boolean turns = kindOf(b) == PAWN && land.turnsPawn(land.villageOf(b), to);
            put(b, to, turns ? EWE : kindOf(b));
        }

        /** A day as it is told; where that drive can not be, one of resting. */
        void live(int drive) {
            int b = drive / 10;
            int to = drive == RESTING ? NONE : driven(b, drive % 10);
            if (to != NONE) {
                move(b, to);
            }
            passDay();
        }

        void passDay() {
            graze();
            beginNextDay();
        }

        void graze() {
            for (int b = 0; b < land.beasts && b < MOST_BEASTS; b++) {
                int x = place[b];
                if (x < 0 || x >= MOST_SQUARES) {
                    continue;
                }
                if (grass[x] > 0) {
                    grass[x]--;
                    hunger[b] = 0;
                } else {
                    hunger[b]++;
                    place[b] = hunger[b] > land.bears ? NONE : x;
                }
            }
        }

        void beginNextDay() {
            day++;
            if (day % GROWTH != 0) {
                return;
            }
            for (int x = 0; x < land.squares && x < MOST_SQUARES; x++) {
                if (grass[x] < HIGHEST && occupant(x) == NONE) {
                    grass[x]++;
                }
            }
        }

        /** The wolf takes the first of those next to a bog. */
        void wolfComes() {
            for (int b = 0; b < land.beasts && b < MOST_BEASTS; b++) {
                if (place[b] != NONE && bogBeside(place[b])) {
                    place[b] = NONE;
                    return;
                }
            }
        }

        private boolean bogBeside(int x) {
            for (int way = 0; way < WAYS; way++) {
                int next = land.beside(x, way);
                if (next != NONE && grassOn(next) == BOG) {
                    return true;
                }
            }
            return false;
        }

        /** The villages that have lost, as bits; kings never turn, so who has one now had one as laid. */
        int lost() {
            int had = 0;
            int have = 0;
            for (int b = 0; b < land.beasts && b < MOST_BEASTS; b++) {
                if (kind[b] == KING) {
                    int bit = land.villageOf(b) == 0 ? 1 : 2;
                    had |= bit;
                    have |= place[b] == NONE ? 0 : bit;
                }
            }
            return had & ~have;
        }

        int worth() {
            int sum = 0;
            for (int b = 0; b < land.beasts && b < MOST_BEASTS; b++) {
                int its = kind[b] >= 0 && kind[b] < WORTHS.length ? WORTHS[kind[b]] : 0;
                if (place[b] != NONE) {
                    sum += land.villageOf(b) == 0 ? its : -its;
                }
            }
            return sum;
        }

        /** How many of a village are on the meadow. */
        int staying(int v) {
            int sum = 0;
            for (int b = 0; b < land.beasts && b < MOST_BEASTS; b++) {
                if (place[b] != NONE && land.villageOf(b) == v) {
                    sum++;
                }
            }
            return sum;
        }

        int allGrass() {
            int sum = 0;
            for (int x = 0; x < land.squares && x < MOST_SQUARES; x++) {
                sum += grass[x] == BOG ? 0 : grass[x];
            }
            return sum;
        }

        boolean ramOnWell(int v) {
            int b = occupant(land.well);
            return b != NONE && kindOf(b) == RAM && land.villageOf(b) == v;
        }
    }

    /** Meadows made once, to be copied into: a search makes no objects of its own. */
    private static final class Pile {
        final Meadow lowest;
        final Meadow[] meadows;

        Pile(Land land, int size) {
            lowest = new Meadow(land);
            meadows = new Meadow[size < 1 ? 1 : size];
            for (int i = 0; i < meadows.length; i++) {
                meadows[i] = i == 0 ? lowest : new Meadow(land);
            }
        }

        /** Never null: where there is none of that number, it is the lowest one. */
        Meadow get(int i) {
            Meadow found = i >= 0 && i < meadows.length ? meadows[i] : lowest;
            return found == null ? lowest : found;
        }
    }

    /** THE TEXT, and its reading into a land and a meadow of its own. */
    private static final class Sheet {
        final int[] letters = new int[MOST_LETTERS];
        final Land land = new Land();
        final Meadow meadow = new Meadow(land);
        int length = 0;
        private int head = 0;

        boolean add(int letter) {
            if (length < 0 || length >= MOST_LETTERS) {
                return false;
            }
            letters[length] = letter;
            length++;
            return true;
        }

        /** Where the first faulty item begins; NONE: the land and the meadow are as the text tells. */
        int firstFault() {
            land.clear();
            meadow.day = 0;
            head = 0;
            for (int items = 0; items < MOST_LETTERS && head < length; items++) {
                int start = head;
                if (!readItem()) {
                    return start;
                }
            }
            return NONE;
        }

        private boolean readItem() {
            int letter = letterAtHead();
            head++;
            switch (letter) {
                case 'r': return readRow();
                case 'b': return readBeast();
                case 'w': return readWell();
                case 'h': return readHunger();
                case 's': return readSnow();
                default: return false;
            }
        }

        private int letterAtHead() {
            return head >= 0 && head < length && head < MOST_LETTERS ? letters[head] : 0;
        }

        private boolean passes(int letter) {
            if (letterAtHead() != letter) {
                return false;
            }
            head++;
            return true;
        }

        private int readFigure() {
            int letter = head >= 0 && head < length && head < MOST_LETTERS ? letters[head] : 0;
            if (letter < '0' || letter > '9') {
                return NONE;
            }
            head++;
            return letter - '0';
        }

        private int readNumber() {
            int first = readFigure();
            int second = first == NONE ? NONE : readFigure();
            return second == NONE ? first : 10 * first + second;
        }

        private boolean readRow() {
            if (land.rows >= MOST_SIDE) {
                return false;
            }
            int told = 0;
            for (int i = 0; i < MOST_SIDE; i++) {
                int figure = readFigure();
                int x = land.squares + told;
                if (figure == NONE || x < 0 || x >= MOST_SQUARES) {
                    break;
                }
                meadow.grass[x] = figure;
                told++;
            }
            if (told < 1 || land.rows > 0 && told != land.width || !passes(';')) {
                return false;
            }
            land.width = told;
            land.rows++;
            land.squares += told;
            return true;
        }

        private boolean readBeast() {
            int kind = readNumber();
            boolean parted = passes(',');
            int village = readNumber();
            parted = parted && passes(',');
            int x = readNumber();
            if (!parted || !passes(';') || kind < RAM || kind > KING || !isVillage(village)) {
                return false;
            }
            int b = land.beasts;
            if (b < 0 || b >= MOST_BEASTS || meadow.grassOn(x) == BOG || meadow.occupant(x) != NONE) {
                return false;
            }
            land.beasts++;
            land.village[b] = village;
            meadow.hunger[b] = 0;
            meadow.put(b, x, kind);
            return true;
        }

        private boolean readWell() {
            int x = readNumber();
            if (!passes(';') || meadow.grassOn(x) == BOG) {
                return false;
            }
            land.well = x;
            return true;
        }

        private boolean readHunger() {
            int bears = readNumber();
            if (!passes(';') || bears < 1 || bears > 9) {
                return false;
            }
            land.bears = bears;
            return true;
        }

        private boolean readSnow() {
            int snow = readNumber();
            if (!passes(';') || snow < 0 || snow > 1 || land.snows < 0 || land.snows >= MOST_SNOWS) {
                return false;
            }
            land.snow[land.snows] = snow;
            land.snows++;
            return true;
        }
    }

    /** The days that can be undone: what each was told, and how all stood before it. */
    private static final class Past {
        final Land land;
        final Pile stood;
        final int[] told = new int[MOST_UNDONE];
        int days = 0;
        private int oldest = 0;

        Past(Land land) {
            this.land = land;
            stood = new Pile(land, MOST_UNDONE);
        }

        /** In a ring, so that a ninth day is written over the oldest. */
        private int slot(int i) {
            return Math.floorMod(oldest + i, MOST_UNDONE);
        }

        Meadow before(int i) {
            return stood.get(slot(i));
        }

        void add(Meadow now, int drive) {
            if (days >= MOST_UNDONE) {
                oldest = slot(1);
                days = MOST_UNDONE - 1;
            }
            int at = slot(days);
            stood.get(at).copyFrom(now);
            told[at] = drive;
            days++;
        }

        /** Whether the k-th latest day can be told otherwise so; if, the work is as all would stand now. */
        boolean otherwiseIs(int k, int drive, Meadow work) {
            int changed = days - 1 - k;
            if (changed < 0 || k < 0) {
                return false;
            }
            int was = told[slot(changed)];
            if (drive == was || drive != RESTING && was != RESTING && drive / 10 != was / 10) {
                return false;
            }
            Meadow base = before(changed);
            if (drive != RESTING && base.driven(drive / 10, drive % 10) == NONE) {
                return false;
            }
            work.copyFrom(base);
            work.live(drive);
            for (int i = changed + 1; i < days; i++) {
                work.live(work.lost() == 0 ? told[slot(i)] : RESTING);
            }
            return true;
        }
    }

    /** All that one beast can come to, the others staying: nearest first, of those by the first ways first. */
    private static final class Walk {
        /** A pawn's squares stand behind the others, as it can come to one both as a pawn and as an ewe. */
        private static final int MOST_STANDS = 2 * MOST_SQUARES;
        private final Meadow meadow;
        private final int[] place = new int[MOST_STANDS];
        private final int[] kind = new int[MOST_STANDS];
        private final int[] drives = new int[MOST_STANDS];
        private final int[] before = new int[MOST_STANDS];
        private final int[] by = new int[MOST_STANDS];
        private final boolean[] seen = new boolean[MOST_STANDS];
        private int stands = 0;

        Walk(Land land) {
            meadow = new Meadow(land);
        }

        void from(Meadow now, int b) {
            meadow.copyFrom(now);
            stands = 0;
            for (int i = 0; i < MOST_STANDS; i++) {
                seen[i] = false;
            }
            add(b, 0, NONE, NONE);
            for (int i = 0; i < stands && i < MOST_STANDS; i++) {
                for (int way = 0; way < WAYS; way++) {
                    meadow.put(b, place[i], kind[i]);
                    int to = meadow.reach(b, way, true);
                    if (to != NONE) {
                        meadow.move(b, to);
                        add(b, drives[i] + 1, i, way);
                    }
                }
            }
        }

        private void add(int b, int behind, int from, int way) {
            int x = meadow.placeOf(b);
            int mark = meadow.kindOf(b) == PAWN ? x + MOST_SQUARES : x;
            if (mark < 0 || mark >= MOST_STANDS || seen[mark] || stands < 0 || stands >= MOST_STANDS) {
                return;
            }
            seen[mark] = true;
            place[stands] = x;
            kind[stands] = meadow.kindOf(b);
            drives[stands] = behind;
            before[stands] = from;
            by[stands] = way;
            stands++;
        }

        /** The first stand on a square; NONE: it takes too many drives, or there is none. */
        int first(int x) {
            for (int i = 0; i < stands && i < MOST_STANDS; i++) {
                if (place[i] == x) {
                    return drives[i] <= MOST_DRIVES ? i : NONE;
                }
            }
            return NONE;
        }

        int drivesTo(int end) {
            return end >= 0 && end < MOST_STANDS ? drives[end] : NONE;
        }

        /** The k-th way (0 first) of those to a stand. */
        int wayTo(int end, int k) {
            int at = end;
            for (int i = 0; i < MOST_STANDS && at >= 0 && at < MOST_STANDS; i++) {
                if (drives[at] == k + 1) {
                    return by[at];
                }
                at = before[at];
            }
            return NONE;
        }

        int squaresWithin(int n) {
            int sum = 0;
            for (int x = 0; x < MOST_SQUARES; x++) {
                int at = first(x);
                if (at != NONE && drivesTo(at) <= n) {
                    sum++;
                }
            }
            return sum;
        }
    }

    /** What days to come can bring: one meadow for each day behind now. */
    private static final class Ahead {
        private final Land land;
        private final Pile levels;
        private final int[] path = new int[MOST_SUMMER];
        private int ownDays = 0;
        int best = NONE;

        Ahead(Land land) {
            this.land = land;
            levels = new Pile(land, MOST_WOLVES + 1);
        }

        /** The level behind this one: a day on which a beast goes there, or (b NONE) all stay. */
        private Meadow pass(int level, int b, int to) {
            Meadow next = levels.get(level + 1);
            next.copyFrom(levels.get(level));
            if (b != NONE) {
                next.move(b, to);
            }
            next.passDay();
            return next;
        }

        int daysToWell(Meadow now, int v) {
            levels.get(0).copyFrom(now);
            for (int days = 0; days <= MOST_SUMMER; days++) {
                if (comesToWell(0, days, v, 0)) {
                    return days;
                }
            }
            return NONE;
        }

        /**
         * Whether a ram of the village can be on the well behind so many days. A ram that is there before the last
         * of them was found behind fewer, so the last one can only be a drive to the well.
         */
        private boolean comesToWell(int level, int days, int v, int own) {
            Meadow here = levels.get(level);
            if (level >= days || level >= MOST_SUMMER) {
                ownDays = own;
                return here.ramOnWell(v);
            }
            if (here.lost() != 0) {
                return false;
            }
            // nobody of it can be taken while the other one rests: who is missing has starved
            int had = here.staying(v);
            boolean last = level == days - 1;
            if (here.turn() != v) {
                return !last && pass(level, NONE, NONE).staying(v) == had && comesToWell(level + 1, days, v, own);
            }
            for (int drive = 0; drive < 10 * land.beasts && drive < RESTING; drive++) {
                int b = drive / 10;
                int to = here.driven(b, drive % 10);
                if (to == NONE || last && (to != land.well || here.kindOf(b) != RAM)) {
                    continue;
                }
                if (pass(level, b, to).staying(v) == had && comesToWell(level + 1, days, v, own + 1)) {
                    note(own, drive);
                    return true;
                }
            }
            if (!last && pass(level, NONE, NONE).staying(v) == had && comesToWell(level + 1, days, v, own + 1)) {
                note(own, RESTING);
                return true;
            }
            return false;
        }

        private void note(int own, int drive) {
            if (own >= 0 && own < path.length) {
                path[own] = drive;
            }
        }

        /** What the village does on its k-th own day of the summer found last. */
        int onOwnDay(int k) {
            return k >= 0 && k < ownDays && k < path.length ? path[k] : NONE;
        }

        int worthBehind(Meadow now, int days) {
            levels.get(0).copyFrom(now);
            return worthFrom(0, days);
        }

        private int worthFrom(int level, int days) {
            Meadow here = levels.get(level);
            if (level >= days || level >= MOST_GAME || here.lost() != 0) {
                return here.worth();
            }
            boolean most = here.turn() == 0;
            int bestDrive = NONE;
            int bestWorth = 0;
            for (int drive = 0; drive <= RESTING; drive++) {
                int to = drive == RESTING ? NONE : here.driven(drive / 10, drive % 10);
                if (to == NONE && drive != RESTING) {
                    continue;
                }
                pass(level, drive == RESTING ? NONE : drive / 10, to);
                int worth = worthFrom(level + 1, days);
                if (bestDrive == NONE || (most ? worth > bestWorth : worth < bestWorth)) {
                    bestDrive = drive;
                    bestWorth = worth;
                }
            }
            best = bestDrive;
            return bestWorth;
        }

        /** In how many of ten to the n-th ways, as the wolf comes or not, a beast is on the meadow behind n days. */
        long staying(Meadow now, int b, int n, int x) {
            levels.get(0).copyFrom(now);
            return stayingFrom(0, b, n, x);
        }

        private long stayingFrom(int level, int b, int n, int x) {
            Meadow here = levels.get(level);
            if (here.isOff(b)) {
                return 0;
            }
            if (level >= n || level >= MOST_WOLVES) {
                return 1;
            }
            Meadow next = levels.get(level + 1);
            long sum = 0;
            if (x < TENTHS) {
                next.copyFrom(here);
                next.passDay();
                sum += (TENTHS - x) * stayingFrom(level + 1, b, n, x);
            }
            if (x > 0) {
                next.copyFrom(here);
                next.graze();
                next.wolfComes();
                next.beginNextDay();
                sum += x * stayingFrom(level + 1, b, n, x);
            }
            return sum;
        }
    }
}

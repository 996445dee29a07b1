/**
 * Ice for a dry coast: a sea read from a text, bergs that melt on their way to the harbour,
 * tugs that tow them, what they gain, and what is to be told of all that.
 *
 * <p>No call throws: what cannot be answered is refused by a number. All rows are made once,
 * in the constructor, and used again by every call.
 */
public final class IceForCoast {
    public static final int NONE = -1, UNKNOWN = -101, OUTSIDE = -102, STATE = -103, FULL = -104;

    // tow() and best() may tell a gain below 0, so their refusals stand this far below the others.
    private static final int FAR_BELOW = -100000;

    private static final int MOST_BERGS = 5;
    private static final int MOST_TUGS = 11;
    private static final int HOUSES = 5;
    private static final int LEAST_SIZE = 10;
    private static final int MOST_SIZE = 999;
    private static final int MOST_FOOT = 99;
    private static final int MOST_CAME = 20;
    private static final int FIRST_STEP_ASKED = 10;

    private final Page thePage = new Page();
    private final Tow theTow = new Tow();
    private final Sea theSea = theTow.sea;
    private final Coins coins = theTow.coins;
    private final Berg[] bergs = new Berg[MOST_BERGS];
    private final Lines lines = new Lines();
    private final Image kept = new Image();
    private final Ledger ledger = new Ledger();
    private final Odds theOdds = new Odds();
    private int bergCount;
    private int seasRead;
    private int cameDone;

    public IceForCoast() {
        for (int i = 0; i < bergs.length; i++) {
            bergs[i] = new Berg();
        }
    }

    // ---- the sea

    public int letters(long w) {
        return thePage.append(w);
    }

    public int blank() {
        return thePage.clear();
    }

    public int fault() {
        return thePage.firstWrong();
    }

    public int sea() {
        if (!thePage.isSea()) {
            return STATE;
        }
        theSea.lay(thePage);
        thePage.clear();
        bergCount = 0;
        lines.cutTo(0);
        seasRead++;
        return theSea.squares;
    }

    public int square(int square, int what) {
        if (!theSea.has(square)) {
            return UNKNOWN;
        }
        switch (what) {
            case 0: return theSea.warmth[square];
            case 1: return theSea.current[square];
            case 2: return theSea.far[square];
            default: return OUTSIDE;
        }
    }

    // ---- bergs, coin

    public int berg(int kind, int square, int size, int foot, int n) {
        if (!Berg.isKind(kind)) {
            return OUTSIDE;
        }
        if (!theSea.hasWarmth(square)) {
            return UNKNOWN;
        }
        if (!isSize(size) || !isFoot(foot) || !Berg.mayBreak(kind, n)) {
            return OUTSIDE;
        }
        if (bergCount >= MOST_BERGS) {
            return FULL;
        }
        bergs[bergCount].become(kind, square, size, foot, n);
        ledger.forget(bergCount);
        bergCount++;
        return bergCount - 1;
    }

    public int as(int berg, int kind) {
        if (!isBerg(berg)) {
            return UNKNOWN;
        }
        if (!Berg.isKind(kind)) {
            return OUTSIDE;
        }
        return bergs[berg].isA(kind) ? berg : NONE;
    }

    public int about(int berg, int what) {
        if (!isBerg(berg)) {
            return UNKNOWN;
        }
        switch (what) {
            case 0: return bergs[berg].kind;
            case 1: return bergs[berg].square;
            case 2: return bergs[berg].size;
            case 3: return bergs[berg].foot;
            case 4: return bergs[berg].n;
            default: return OUTSIDE;
        }
    }

    public int change(int berg, int what, int v) {
        if (!isBerg(berg)) {
            return UNKNOWN;
        }
        boolean ofSize = what == 2 && isSize(v);
        boolean ofFoot = what == 3 && isFoot(v);
        if (!ofSize && !ofFoot) {
            return OUTSIDE;
        }
        ledger.forget(berg);
        Berg changed = bergs[berg];
        int was = ofSize ? changed.size : changed.foot;
        if (ofSize) {
            changed.size = v;
        } else {
            changed.foot = v;
        }
        return was;
    }

    public int coin(int what, int v) {
        if (!coins.mayBe(what, v)) {
            return OUTSIDE;
        }
        ledger.forgetAll();
        return coins.put(what, v);
    }

    // ---- tows

    public int tow(int berg, int tugs, boolean skirt, int what) {
        if (!isBerg(berg)) {
            return FAR_BELOW + UNKNOWN;
        }
        boolean ofStep = what >= FIRST_STEP_ASKED && what < FIRST_STEP_ASKED + Tow.MOST_STEPS;
        if (!isTugs(tugs) || !(ofStep || what >= 0 && what <= 3)) {
            return FAR_BELOW + OUTSIDE;
        }
        if (!hasWay(berg)) {
            return FAR_BELOW + NONE;
        }
        theTow.seek(bergs[berg], bergs[berg].size, tugs, skirt);
        switch (what) {
            case 0: return theTow.water;
            case 1: return theTow.days;
            case 2: return theTow.gain;
            case 3: return theTow.steps;
            default: return theTow.stepAt(what - FIRST_STEP_ASKED);
        }
    }

    public int ways(int berg) {
        return isBerg(berg) ? theSea.waysFrom[bergs[berg].square] : UNKNOWN;
    }

    public int best(int berg, int what) {
        if (!isBerg(berg)) {
            return FAR_BELOW + UNKNOWN;
        }
        if (what < 0 || what > 2) {
            return FAR_BELOW + OUTSIDE;
        }
        if (!hasWay(berg)) {
            return FAR_BELOW + NONE;
        }
        weigh(berg);
        int entry = ledger.bestEntry(berg);
        switch (what) {
            case 0: return Ledger.tugsOf(entry);
            case 1: return Ledger.hasSkirt(entry) ? 1 : 0;
            default: return ledger.gains[berg][entry];
        }
    }

    public int season(int tugs, int what) {
        if (seasRead == 0) {
            return STATE;
        }
        if (!isTugs(tugs) || what < 0 || what > MOST_BERGS) {
            return OUTSIDE;
        }
        for (int berg = 0; berg < bergCount; berg++) {
            weigh(berg);
        }
        ledger.deal(bergCount);
        if (what == 0) {
            return ledger.most[0][tugs];
        }
        return what <= bergCount ? ledger.tugsFor(what - 1, tugs) : NONE;
    }

    public int more(int tugs) {
        if (seasRead == 0) {
            return STATE;
        }
        if (tugs < 1 || tugs >= MOST_TUGS) {
            return OUTSIDE;
        }
        return season(tugs + 1, 0) - season(tugs, 0);
    }

    public int drawn(int berg, int tugs, boolean skirt, int seed, int what) {
        if (!isBerg(berg)) {
            return UNKNOWN;
        }
        if (!isTugs(tugs) || seed < 0 || what < 0 || what > 2) {
            return OUTSIDE;
        }
        if (!hasWay(berg)) {
            return NONE;
        }
        theTow.seek(bergs[berg], bergs[berg].size, tugs, skirt);
        theTow.towAgain(seed);
        switch (what) {
            case 0: return theTow.water;
            case 1: return theTow.days;
            default: return (int) theTow.seed;
        }
    }

    public int came(int berg, int tugs, boolean skirt, int water, int what) {
        if (!isBerg(berg)) {
            return UNKNOWN;
        }
        if (!isTugs(tugs) || water < 0 || water > MOST_SIZE || what < 0 || what > 2) {
            return OUTSIDE;
        }
        if (!hasWay(berg) || cameDone >= MOST_CAME) {
            return STATE;
        }
        cameDone++;
        int many = 0;
        int least = NONE;
        int greatest = NONE;
        for (int size = LEAST_SIZE; size <= MOST_SIZE; size++) {
            theTow.seek(bergs[berg], size, tugs, skirt);
            if (theTow.water == water) {
                many++;
                least = least == NONE ? size : least;
                greatest = size;
            }
        }
        switch (what) {
            case 0: return many;
            case 1: return least;
            default: return greatest;
        }
    }

    // ---- odds, lines

    public long letOff(int size, int days, int melt, int odds, int what) {
        boolean iceTold = size >= 0 && size <= MOST_SIZE && melt >= 0 && melt <= Odds.MOST_MELT;
        boolean daysTold = days >= 0 && days <= Odds.MOST_DAYS && odds >= 0 && odds <= Odds.MOST_ODDS;
        if (!iceTold || !daysTold || what < 0 || what > 2) {
            return OUTSIDE;
        }
        theOdds.reckon(size, days, melt, odds);
        switch (what) {
            case 0: return theOdds.above;
            case 1: return theOdds.below;
            default: return theOdds.letsOff ? 1 : 0;
        }
    }

    public int line(int house, int berg, int day) {
        if (!isHouse(house) || !isBerg(berg)) {
            return UNKNOWN;
        }
        if (day < 0 || day > Lines.MOST_DAY) {
            return OUTSIDE;
        }
        return lines.add(house, berg, day) ? lines.length : FULL;
    }

    public int claims(int house, int berg, int day, int rule, int part) {
        if (!isHouse(house) || !isBerg(berg)) {
            return UNKNOWN;
        }
        if (day < 0 || day > Lines.MOST_CAME_DAY || rule < 0 || rule > 2 || part < 0 || part > 1) {
            return OUTSIDE;
        }
        boolean firstTakesAll = rule == 0;
        boolean byDays = rule == 1;
        int own = firstTakesAll ? lines.allIfFirst(house, berg, day) : lines.sharesOf(house, berg, day, byDays);
        int whole = firstTakesAll ? 1 : lines.sharesOfAll(berg, day, byDays);
        int common = (int) commonDivisor(own, whole);
        if (common == 0) {
            // No line counts: 0 by 1.
            return part == 0 ? 0 : 1;
        }
        return part == 0 ? own / common : whole / common;
    }

    // ---- what is told

    public int image() {
        if (seasRead == 0) {
            return STATE;
        }
        kept.keep(bergs, bergCount, coins);
        kept.lineCount = lines.length;
        kept.seaNumber = seasRead;
        return bergCount;
    }

    public int restore() {
        if (kept.seaNumber == 0 || kept.seaNumber != seasRead) {
            return STATE;
        }
        kept.giveBack(bergs, coins);
        lines.cutTo(kept.lineCount);
        ledger.forgetAll();
        bergCount = kept.bergCount;
        return bergCount;
    }

    public int count(int what) {
        switch (what) {
            case 0: return theSea.squares;
            case 1: return bergCount;
            case 2: return lines.length;
            case 3: return thePage.length;
            case 4: return coins.value[Coins.PRICE];
            case 5: return coins.value[Coins.WAGE];
            case 6: return coins.value[Coins.CLOTH];
            case 7: return seasRead;
            case 8: return cameDone;
            default: return OUTSIDE;
        }
    }

    public long digest() {
        long h = 569;
        for (int i = 0; i < theSea.squares; i++) {
            for (int what = 0; what <= 2; what++) {
                h = 31 * h + square(i, what);
            }
        }
        for (int i = 0; i < bergCount; i++) {
            for (int what = 0; what <= 4; what++) {
                h = 31 * h + about(i, what);
            }
            h = 31 * h + ways(i);
            for (int what = 0; what <= 3; what++) {
                h = 31 * h + tow(i, 3, false, what);
            }
            for (int what = 0; what <= 2; what++) {
                h = 31 * h + best(i, what);
            }
        }
        for (int what = 0; what <= 5 && seasRead > 0; what++) {
            h = 31 * h + season(5, what);
        }
        for (int i = 0; i < lines.length; i++) {
            h = 31 * h + lines.house[i];
            h = 31 * h + lines.berg[i];
            h = 31 * h + lines.day[i];
        }
        for (int i = 0; i < thePage.length; i++) {
            h = 31 * h + thePage.codeAt(i);
        }
        for (int what = 0; what <= 8; what++) {
            h = 31 * h + count(what);
        }
        return h;
    }

    // ---- what the calls share

    private boolean isBerg(int berg) {
        return berg >= 0 && berg < bergCount;
    }

    private boolean hasWay(int berg) {
        return theSea.waysFrom[bergs[berg].square] > 0;
    }

    private static boolean isTugs(int tugs) {
        return tugs >= 1 && tugs <= MOST_TUGS;
    }

    private static boolean isHouse(int house) {
        return house >= 0 && house < HOUSES;
    }

    private static boolean isSize(int size) {
        return size >= LEAST_SIZE && size <= MOST_SIZE;
    }

    private static boolean isFoot(int foot) {
        return foot >= 0 && foot <= MOST_FOOT;
    }

    /** Fills the ledger's row of a berg, if what it told is no longer known. */
    private void weigh(int berg) {
        if (ledger.known[berg]) {
            return;
        }
        ledger.known[berg] = true;
        ledger.towable[berg] = hasWay(berg);
        if (!ledger.towable[berg]) {
            return;
        }
        for (int entry = Ledger.FIRST_ENTRY; entry < Ledger.ENTRIES; entry++) {
            theTow.seek(bergs[berg], bergs[berg].size, Ledger.tugsOf(entry), Ledger.hasSkirt(entry));
            ledger.gains[berg][entry] = theTow.gain;
        }
    }

    private static long commonDivisor(long a, long b) {
        // Each second round at least halves the rest, so 128 rounds are enough for any two longs.
        for (int round = 0; round < 128 && b != 0; round++) {
            long rest = a % b;
            a = b;
            b = rest;
        }
        return a;
    }

    /** The letters that wait to be read as a sea. */
    private static final class Page {
        private static final int MOST_LETTERS = 64;
        private static final int LAST_CODE = 126;

        private final int[] codes = new int[MOST_LETTERS];
        private int length;

        // How far the page has been read as a sea; firstWrong() starts them anew.
        private int row;
        private int inRow;
        private int width;
        private int harbours;
        private boolean currentMayCome;

        int append(long w) {
            int many = 0;
            boolean ended = false;
            for (int place = 0; place < 8; place++) {
                int code = byteOf(w, place);
                if (code > LAST_CODE || ended && code != 0) {
                    return OUTSIDE;
                }
                ended = code == 0;
                many += ended ? 0 : 1;
            }
            if (length + many > MOST_LETTERS) {
                return FULL;
            }
            for (int place = 0; place < many; place++) {
                codes[length] = byteOf(w, place);
                length++;
            }
            return length;
        }

        private static int byteOf(long w, int place) {
            return (int) (w >>> (8 * place)) & 255;
        }

        int clear() {
            int had = length;
            length = 0;
            return had;
        }

        int codeAt(int place) {
            return place >= 0 && place < length ? codes[place] : 0;
        }

        int firstWrong() {
            row = 0;
            inRow = 0;
            width = 0;
            harbours = 0;
            currentMayCome = false;
            for (int place = 0; place < length; place++) {
                if (!takes(codes[place])) {
                    return place;
                }
            }
            return length;
        }

        boolean isSea() {
            return firstWrong() == length && row >= 1 && inRow == width && harbours == 1;
        }

        private boolean takes(int code) {
            if (code == '/') {
                return takesRowEnd();
            }
            if (Sea.wayOf(code) != NONE) {
                boolean taken = currentMayCome;
                currentMayCome = false;
                return taken;
            }
            return takesSquare(code);
        }

        private boolean takesRowEnd() {
            boolean rowIsWhole = row == 0 ? inRow >= Sea.LEAST_WIDTH : inRow == width;
            if (!rowIsWhole || row + 1 >= Sea.MOST_ROWS) {
                return false;
            }
            width = inRow;
            row++;
            inRow = 0;
            currentMayCome = false;
            return true;
        }

        private boolean takesSquare(int code) {
            boolean warm = code >= '0' && code <= '9';
            boolean secondHarbour = code == 'h' && harbours > 0;
            if (!warm && code != '#' && code != 'h' || secondHarbour) {
                return false;
            }
            if (inRow >= (row == 0 ? Sea.MOST_WIDTH : width)) {
                return false;
            }
            harbours += code == 'h' ? 1 : 0;
            inRow++;
            currentMayCome = warm;
            return true;
        }
    }

    /** The squares, and from each of them the steps that lead on to the harbour. */
    private static final class Sea {
        private static final int MOST_ROWS = 5;
        private static final int LEAST_WIDTH = 2;
        private static final int MOST_WIDTH = 6;
        private static final int MOST_SQUARES = MOST_ROWS * MOST_WIDTH;
        private static final int HARBOUR = 10;
        private static final int LAND = 11;
        private static final int WAYS = 4;
        private static final int NORTH = 0;
        private static final int EAST = 1;
        private static final int SOUTH = 2;
        private static final int WEST = 3;

        private final int[] warmth = new int[MOST_SQUARES];
        private final int[] current = new int[MOST_SQUARES];
        private final int[] far = new int[MOST_SQUARES];
        private final int[] waysFrom = new int[MOST_SQUARES];
        // The square that a step leads to, or NONE if no way to the harbour begins by it.
        private final int[][] next = new int[MOST_SQUARES][WAYS];
        private int squares;
        private int width;
        private int harbour;

        static int wayOf(int code) {
            switch (code) {
                case 'n': return NORTH;
                case 'e': return EAST;
                case 's': return SOUTH;
                case 'w': return WEST;
                default: return NONE;
            }
        }

        boolean has(int square) {
            return square >= 0 && square < squares;
        }

        boolean hasWarmth(int square) {
            return has(square) && warmth[square] < HARBOUR;
        }

        /** Takes the place of the sea before; the page has been found to be a sea. */
        void lay(Page page) {
            squares = 0;
            width = 0;
            for (int place = 0; place < page.length; place++) {
                layLetter(page.codeAt(place));
            }
            measure();
            for (int distance = 0; distance <= Tow.MOST_STEPS; distance++) {
                openWays(distance);
            }
        }

        private void layLetter(int code) {
            int way = wayOf(code);
            if (code == '/') {
                width = width == 0 ? squares : width;
            } else if (way != NONE) {
                if (squares > 0) {
                    current[squares - 1] = way;
                }
            } else if (squares < MOST_SQUARES) {
                warmth[squares] = code == '#' ? LAND : code == 'h' ? HARBOUR : code - '0';
                current[squares] = NONE;
                harbour = code == 'h' ? squares : harbour;
                squares++;
            }
        }

        private void measure() {
            if (width == 0) {
                return;
            }
            for (int i = 0; i < squares; i++) {
                int rows = Math.abs(i / width - harbour / width);
                int columns = Math.abs(i % width - harbour % width);
                far[i] = rows + columns;
            }
        }

        /** Opens the ways from all squares so far off; those from nearer ones are open already. */
        private void openWays(int distance) {
            for (int i = 0; i < squares; i++) {
                if (far[i] != distance) {
                    continue;
                }
                waysFrom[i] = distance == 0 ? 1 : 0;
                for (int way = 0; way < WAYS; way++) {
                    int to = beside(i, way);
                    boolean leads = to != NONE && warmth[i] != LAND && far[to] < distance && waysFrom[to] > 0;
                    next[i][way] = leads ? to : NONE;
                    waysFrom[i] += leads ? waysFrom[to] : 0;
                }
            }
        }

        private int beside(int square, int way) {
            if (width == 0) {
                return NONE;
            }
            int column = square % width;
            switch (way) {
                case NORTH: return square >= width ? square - width : NONE;
                case EAST: return column + 1 < width ? square + 1 : NONE;
                case SOUTH: return square + width < squares ? square + width : NONE;
                default: return column > 0 ? square - 1 : NONE;
            }
        }
    }

    /** A berg as it was told; a tow melts a copy of its size and foot. */
    private static final class Berg {
        private static final int FLAT = 1;
        private static final int ROTTEN = 2;
        private static final int DIRTY = 3;
        private static final int ROLLED = 4;

        private int kind;
        private int square;
        private int size;
        private int foot;
        private int n;
        private boolean flat;

        static boolean isKind(int kind) {
            return kind >= 0 && kind <= ROLLED;
        }

        static boolean mayBreak(int kind, int n) {
            return kind == ROTTEN ? n >= 2 && n <= 9 : n == 0;
        }

        void become(int newKind, int newSquare, int newSize, int newFoot, int newN) {
            kind = newKind;
            square = newSquare;
            size = newSize;
            foot = newFoot;
            n = newN;
            flat = newKind == FLAT || newKind == ROLLED;
        }

        boolean isA(int other) {
            return other == 0 || other == kind || other == FLAT && flat;
        }

        int meltOf(int warmth, int left) {
            int felt = kind == DIRTY ? warmth + 1 : warmth;
            int melt = 1 + felt * left / 100;
            return flat ? (melt + 1) / 2 : melt;
        }

        boolean breaksOn(int day) {
            return kind == ROTTEN && n > 0 && day % n == 0;
        }
    }

    /** Price, wage and cloth. */
    private static final class Coins {
        private static final int PRICE = 0;
        private static final int WAGE = 1;
        private static final int CLOTH = 2;
        private static final int[] LEAST = {1, 0, 0};
        private static final int[] MOST = {9, 9, 99};

        private final int[] value = {3, 1, 20};

        boolean mayBe(int what, int v) {
            return what >= PRICE && what <= CLOTH && v >= LEAST[what] && v <= MOST[what];
        }

        int put(int what, int v) {
            int was = value[what];
            value[what] = v;
            return was;
        }

        void copy(Coins other) {
            System.arraycopy(other.value, 0, value, 0, value.length);
        }

        int gainOf(int water, int tugs, int days, boolean skirt) {
            return value[PRICE] * water - value[WAGE] * tugs * days - (skirt ? value[CLOTH] : 0);
        }
    }

    /** A search for the best way of a berg, and that way towed again by drawn days. */
    private static final class Tow {
        private static final int MOST_STEPS = Sea.MOST_ROWS - 1 + Sea.MOST_WIDTH - 1;
        private static final int NEW_FOOT = 9;

        private final Sea sea = new Sea();
        private final Coins coins = new Coins();
        // How it stands behind so many steps of the way that is looked at.
        private final int[] sizeAt = new int[MOST_STEPS + 1];
        private final int[] footAt = new int[MOST_STEPS + 1];
        private final int[] dayAt = new int[MOST_STEPS + 1];
        private final int[] trial = new int[MOST_STEPS];
        private final int[] chosen = new int[MOST_STEPS];
        private Berg berg = new Berg();
        private int tugs = 1;
        private boolean skirt;
        private boolean found;
        private int water;
        private int days;
        private int gain;
        private int steps;
        private boolean drawing;
        private long seed;

        /** Finds the best way of a berg that has one, as if it were of that size. */
        void seek(Berg towed, int size, int byTugs, boolean withSkirt) {
            berg = towed;
            tugs = Math.max(1, byTugs);
            skirt = withSkirt;
            found = false;
            drawing = false;
            sizeAt[0] = size;
            footAt[0] = towed.foot;
            dayAt[0] = 0;
            follow(this, towed.square, 0);
        }

        /** Tows the way just found again, from the same start, by days that are drawn. */
        void towAgain(int firstSeed) {
            drawing = true;
            seed = firstSeed;
            int at = berg.square;
            for (int i = 0; i < steps && at != NONE; i++) {
                pass(i, at, chosen[i]);
                at = sea.next[at][chosen[i]];
            }
            water = sizeAt[steps];
            days = dayAt[steps];
        }

        int stepAt(int place) {
            return place >= 0 && place < steps ? chosen[place] : NONE;
        }

        /** Looks at all ways on from a square, n first, so that of like ones the first is found first. */
        private static void follow(Tow tow, int square, int depth) {
            if (tow.isHopeless(depth)) {
                return;
            }
            if (square == tow.sea.harbour) {
                tow.choose(depth);
                return;
            }
            if (depth >= MOST_STEPS) {
                return;
            }
            for (int way = 0; way < Sea.WAYS; way++) {
                int to = tow.sea.next[square][way];
                if (to != NONE) {
                    tow.trial[depth] = way;
                    tow.pass(depth, square, way);
                    follow(tow, to, depth + 1);
                }
            }
        }

        /**
         * Whether no way that goes on from here is better than the one found: no later step adds
         * ice or takes days back, so the gain now is the most that can be left at the harbour.
         */
        private boolean isHopeless(int depth) {
            int most = coins.gainOf(sizeAt[depth], tugs, dayAt[depth], skirt);
            return found && (most < gain || most == gain && dayAt[depth] >= days);
        }

        private void choose(int depth) {
            found = true;
            water = sizeAt[depth];
            days = dayAt[depth];
            gain = coins.gainOf(water, tugs, days, skirt);
            steps = depth;
            System.arraycopy(trial, 0, chosen, 0, depth);
        }

        /** The days of one step, which go by in the square that it leaves. */
        private void pass(int depth, int square, int way) {
            int left = sizeAt[depth];
            int foot = footAt[depth];
            int day = dayAt[depth];
            int lastDay = day + daysOfStep(square, way, left);
            while (day < lastDay && left > 0) {
                day++;
                int warmth = drawing ? drawnWarmth(sea.warmth[square]) : sea.warmth[square];
                int melt = berg.meltOf(warmth, left);
                left = Math.max(0, left - (skirt ? melt - melt / 3 : melt));
                foot = Math.max(0, foot - warmth);
                if (foot == 0 && berg.kind != Berg.ROLLED) {
                    left -= left / 5;
                    foot = NEW_FOOT;
                }
                if (berg.breaksOn(day)) {
                    left -= (left + 9) / 10;
                }
            }
            sizeAt[depth + 1] = left;
            footAt[depth + 1] = foot;
            dayAt[depth + 1] = day;
        }

        private int daysOfStep(int square, int way, int left) {
            int takes = 1 + left / (20 * tugs);
            int current = sea.current[square];
            if (current == way) {
                takes--;
            } else if (current != NONE && (current + 2) % Sea.WAYS == way) {
                takes++;
            }
            return Math.max(1, takes);
        }

        private int drawnWarmth(int warmth) {
            seed = (1103515245L * seed + 12345L) % (1L << 31);
            int draw = (int) (seed / 65536 % 3);
            return Math.max(0, warmth + draw - 1);
        }
    }

    /** The gains of each berg by all tugs, without a skirt and with one, and how tugs are dealt out. */
    private static final class Ledger {
        // An entry is twice the tugs, and one more with a skirt: the order in which like ones are taken.
        private static final int FIRST_ENTRY = 2;
        private static final int ENTRIES = 2 * (MOST_TUGS + 1);

        private final int[][] gains = new int[MOST_BERGS][ENTRIES];
        private final boolean[] known = new boolean[MOST_BERGS];
        private final boolean[] towable = new boolean[MOST_BERGS];
        // The most that this berg and those behind it gain by so many tugs.
        private final int[][] most = new int[MOST_BERGS + 1][MOST_TUGS + 1];

        static int tugsOf(int entry) {
            return entry / 2;
        }

        static boolean hasSkirt(int entry) {
            return entry % 2 == 1;
        }

        void forget(int berg) {
            known[berg] = false;
        }

        void forgetAll() {
            for (int berg = 0; berg < MOST_BERGS; berg++) {
                known[berg] = false;
            }
        }

        int bestEntry(int berg) {
            int best = FIRST_ENTRY;
            for (int entry = FIRST_ENTRY; entry < ENTRIES; entry++) {
                best = gains[berg][entry] > gains[berg][best] ? entry : best;
            }
            return best;
        }

        void deal(int bergCount) {
            for (int tugs = 0; tugs <= MOST_TUGS; tugs++) {
                most[bergCount][tugs] = 0;
            }
            for (int berg = bergCount - 1; berg >= 0; berg--) {
                for (int tugs = 0; tugs <= MOST_TUGS; tugs++) {
                    most[berg][tugs] = mostFrom(berg, tugs);
                }
            }
        }

        private int mostFrom(int berg, int tugs) {
            int found = most[berg + 1][tugs];
            for (int own = 1; own <= tugs && towable[berg]; own++) {
                found = Math.max(found, gainBy(berg, own) + most[berg + 1][tugs - own]);
            }
            return found;
        }

        private int gainBy(int berg, int tugs) {
            return tugs == 0 ? 0 : Math.max(gains[berg][2 * tugs], gains[berg][2 * tugs + 1]);
        }

        int tugsFor(int berg, int tugs) {
            int left = tugs;
            for (int earlier = 0; earlier < berg; earlier++) {
                left -= fewestFor(earlier, left);
            }
            return fewestFor(berg, left);
        }

        private int fewestFor(int berg, int tugs) {
            for (int own = 0; own < tugs; own++) {
                if (gainBy(berg, own) + most[berg + 1][tugs - own] == most[berg][tugs]) {
                    return own;
                }
            }
            return tugs;
        }
    }

    /** What to let off, reckoned from the last day back. */
    private static final class Odds {
        private static final int MOST_DAYS = 9;
        private static final int MOST_MELT = 99;
        private static final int MOST_ODDS = 9;

        // For each size the most water by the days reckoned so far, times 10 for each of them.
        private final long[] water = new long[MOST_SIZE + 1];
        private long above;
        private long below;
        private boolean letsOff;

        void reckon(int size, int days, int melt, int tenths) {
            for (int s = 0; s <= size; s++) {
                water[s] = s;
            }
            long scale = 1;
            letsOff = false;
            for (int day = 0; day < days; day++) {
                // The last day reckoned is the one that begins now, and its choice stays.
                letsOff = letOffNow(size, melt) > heldNow(size, melt, tenths);
                // From the greatest down: each needs what smaller sizes, and it itself, had before.
                for (int s = size; s >= 0; s--) {
                    water[s] = Math.max(letOffNow(s, melt), heldNow(s, melt, tenths));
                }
                scale *= 10;
            }
            long common = commonDivisor(water[size], scale);
            above = common == 0 ? 0 : water[size] / common;
            below = common == 0 ? 1 : scale / common;
        }

        private long letOffNow(int size, int melt) {
            return 10 * water[Math.max(0, size - size / 5 - melt)];
        }

        private long heldNow(int size, int melt, int tenths) {
            int left = Math.max(0, size - melt);
            return tenths * water[left - left / 3] + (10 - tenths) * water[left];
        }
    }

    /** The lines on bergs, in the order in which they came. */
    private static final class Lines {
        private static final int MOST_LINES = 10;
        private static final int MOST_DAY = 99;
        private static final int MOST_CAME_DAY = 999;

        private final int[] house = new int[MOST_LINES];
        private final int[] berg = new int[MOST_LINES];
        private final int[] day = new int[MOST_LINES];
        private int length;

        boolean add(int ofHouse, int onBerg, int onDay) {
            if (length >= MOST_LINES) {
                return false;
            }
            house[length] = ofHouse;
            berg[length] = onBerg;
            day[length] = onDay;
            length++;
            return true;
        }

        void cutTo(int many) {
            length = Math.max(0, Math.min(length, many));
        }

        private boolean counts(int place, int onBerg, int cameDay) {
            return berg[place] == onBerg && day[place] < cameDay;
        }

        int allIfFirst(int ofHouse, int onBerg, int cameDay) {
            int first = NONE;
            for (int i = 0; i < length; i++) {
                if (counts(i, onBerg, cameDay) && (first == NONE || day[i] < day[first])) {
                    first = i;
                }
            }
            return first != NONE && house[first] == ofHouse ? 1 : 0;
        }

        int sharesOf(int ofHouse, int onBerg, int cameDay, boolean byDays) {
            int shares = 0;
            for (int i = 0; i < length; i++) {
                if (house[i] == ofHouse && counts(i, onBerg, cameDay)) {
                    shares += byDays ? cameDay - day[i] : 1;
                }
            }
            return shares;
        }

        int sharesOfAll(int onBerg, int cameDay, boolean byDays) {
            int shares = 0;
            for (int ofHouse = 0; ofHouse < HOUSES; ofHouse++) {
                shares += sharesOf(ofHouse, onBerg, cameDay, byDays);
            }
            return shares;
        }
    }

    /**
     * What image() keeps. Within one sea bergs and lines go by restore() alone, those that came
     * last, so of both the number is enough, and of bergs what may change.
     */
    private static final class Image {
        private final int[] sizes = new int[MOST_BERGS];
        private final int[] feet = new int[MOST_BERGS];
        private final Coins coins = new Coins();
        private int bergCount;
        private int lineCount;
        // The sea, by its number, that it was made of; 0 while none was kept.
        private int seaNumber;

        void keep(Berg[] bergs, int many, Coins nowCoins) {
            bergCount = Math.min(many, bergs.length);
            for (int i = 0; i < bergCount; i++) {
                sizes[i] = bergs[i].size;
                feet[i] = bergs[i].foot;
            }
            coins.copy(nowCoins);
        }

        void giveBack(Berg[] bergs, Coins nowCoins) {
            for (int i = 0; i < bergCount; i++) {
                bergs[i].size = sizes[i];
                bergs[i].foot = feet[i];
            }
            nowCoins.copy(coins);
        }
    }
}

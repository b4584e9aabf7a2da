/** A lamp layout desk; the document's promises say what each call answers. */
public final class LampShares {
    public static final int UNKNOWN = -1, OUTSIDE = -2, STATE = -3, FULL = -4, NONE = -9;

    private static final int MAX_LETTERS = 99, MAX_SPOTS = 8, MAX_POINTS = 6, MAX_WALLS = 5;
    private static final int MAX_ACTS = 14, MAX_SEEN = 6, MAX_DOINGS = 4, MAX_DRAWS = 20, MAX_WANT = 99;
    private static final int MAX_SETS = 1 << MAX_SPOTS;

    /** L, THE TABLE's ten figures and GLOW come ahead of the PARTS; each PART is a sign and four figures. */
    private static final int TABLE_FIGURES = 10, HEAD = 12, PART = 5, PART_FIGURES = 4;

    private static final int FEWEST = 0, SAFE = 2;
    private static final int HUNG = 1, DIED = 2, BUILT = 3, SUM_IS = 4, SERVED_IS = 5, WANTED = 6, SHADED_IS = 7;

    private static final int[] FACTORIALS = {1, 1, 2, 6, 24, 120, 720, 5040, 40320};

    private final Text text;
    private final Floor floor;
    private final Layout now;
    private final Layout tried;
    private final Layout firstKept;
    private final Layout secondKept;
    private final Acts acts;
    private final Seen seen;
    private final Sets sets;
    private final int[] doings;
    private int filledSlots;
    private long theSeed;

    public LampShares() {
        text = new Text();
        floor = new Floor();
        now = new Layout(floor);
        tried = new Layout(floor);
        firstKept = new Layout(floor);
        secondKept = new Layout(floor);
        acts = new Acts();
        seen = new Seen();
        sets = new Sets(floor);
        doings = new int[MAX_DOINGS];
    }

    // ---- the plan

    public int write(int letter) {
        if (letter < 0 || letter > 255) {
            return OUTSIDE;
        }
        return text.append((char) letter) ? text.length : FULL;
    }

    public int wipe() {
        int before = text.length;
        text.length = 0;
        return before;
    }

    public int fault() {
        return text.firstFault();
    }

    public int plan() {
        if (text.firstFault() != NONE) {
            return STATE;
        }
        floor.read(text);
        now.begin();
        acts.size = 0;
        filledSlots = 0;
        return floor.spotCount;
    }

    public int spot(int spot, int what) {
        if (!floor.hasSpot(spot)) {
            return UNKNOWN;
        }
        if (what < 0 || what > PART_FIGURES) {
            return OUTSIDE;
        }
        return what == PART_FIGURES ? now.lampAt(spot) : floor.spotFigure(spot, what);
    }

    public int point(int point, int what) {
        if (!floor.hasPoint(point)) {
            return UNKNOWN;
        }
        switch (what) {
            case 0:
            case 1:
                return floor.pointFigure(point, what);
            case 2:
                return now.wantOf(point);
            case 3:
                return now.sumOf(point);
            case 4:
                return now.isServed(point) ? 1 : 0;
            case 5:
                sets.weigh(now);
                return sets.leastPriceFor(point);
            default:
                return OUTSIDE;
        }
    }

    public int light(int spot, int point) {
        if (!floor.hasSpot(spot) || !floor.hasPoint(point)) {
            return UNKNOWN;
        }
        return floor.lightOf(spot, point, now.standing);
    }

    public int shade(int spot, int point) {
        if (!floor.hasSpot(spot) || !floor.hasPoint(point)) {
            return UNKNOWN;
        }
        int shading = floor.wallsAcross(spot, point) & now.standing;
        return shading == 0 ? NONE : Integer.numberOfTrailingZeros(shading);
    }

    // ---- acts

    public int hang(int spot) {
        if (!floor.hasSpot(spot)) {
            return UNKNOWN;
        }
        acts.add(HUNG, spot, now.lampAt(spot));
        now.turnLamp(spot);
        return Integer.bitCount(now.hung);
    }

    public int die(int spot) {
        if (!floor.hasSpot(spot)) {
            return UNKNOWN;
        }
        if (now.lampAt(spot) == Layout.NO_LAMP) {
            return STATE;
        }
        acts.add(DIED, spot, now.lampAt(spot));
        now.turnDead(spot);
        return now.lampAt(spot) == Layout.DEAD_LAMP ? 1 : 0;
    }

    public int build(int wall) {
        if (!floor.hasWall(wall)) {
            return UNKNOWN;
        }
        acts.add(BUILT, wall, 0);
        now.turnWall(wall);
        return now.standing >> wall & 1;
    }

    public int want(int point, int v) {
        if (!floor.hasPoint(point)) {
            return UNKNOWN;
        }
        if (v < 0 || v > MAX_WANT) {
            return OUTSIDE;
        }
        int before = now.wantOf(point);
        acts.add(WANTED, point, before);
        now.tellWant(point, v);
        return before;
    }

    public int undo() {
        return acts.takeBack(now) ? acts.size : STATE;
    }

    // ---- asked

    public int best(int how, int what) {
        if (how < 0 || how > 2 || what < 0 || what > 2) {
            return OUTSIDE;
        }
        sets.weigh(now);
        int chosen = sets.choose(how);
        if (chosen == NONE || what == 0) {
            return chosen;
        }
        return what == 1 ? floor.priceOf(chosen) : Integer.bitCount(chosen);
    }

    public int ask(int what) {
        switch (what) {
            case 0:
                return bestSpot();
            case 1:
                return worstWall();
            case 2:
                return evenness();
            default:
                return OUTSIDE;
        }
    }

    public int judge(int n, long row) {
        if (n < 1 || n > MAX_DOINGS || row < 0) {
            return OUTSIDE;
        }
        long rest = row;
        for (int place = n - 1; place >= 0; place--) {
            doings[place] = (int) (rest % 10000);
            rest = rest / 10000;
        }
        if (rest != 0) {
            return OUTSIDE;
        }
        tried.copyFrom(now);
        for (int place = 0; place < n; place++) {
            if (!tried.goesWell(doings[place])) {
                return place;
            }
        }
        return NONE;
    }

    // ---- seen

    public int see(int point, int v, int was) {
        if (!floor.hasPoint(point)) {
            return UNKNOWN;
        }
        if (v < 0 || v > 999 || was < 0 || was > 1) {
            return OUTSIDE;
        }
        return seen.add(point, v, was == 1) ? seen.size : FULL;
    }

    public int unsee() {
        int before = seen.size;
        seen.size = 0;
        return before;
    }

    public int which() {
        int live = now.live();
        int suspects = 0;
        for (int spot = 0; spot < floor.spotCount; spot++) {
            int bit = 1 << spot;
            if ((live & bit) != 0 && seen.agrees(floor, live & ~bit, now.standing)) {
                suspects |= bit;
            }
        }
        return suspects;
    }

    // ---- shares, chances

    public int share(int spot, boolean upper) {
        if (!floor.hasSpot(spot)) {
            return UNKNOWN;
        }
        if (now.lampAt(spot) != Layout.LIVE_LAMP) {
            return STATE;
        }
        sets.weigh(now);
        int lamps = Integer.bitCount(now.live());
        return told(sets.gainInAllOrders(spot, now.live()), factorial(lamps), upper);
    }

    public int chance(int x, boolean upper) {
        if (x < 0 || x > 10) {
            return OUTSIDE;
        }
        sets.weigh(now);
        int lamps = Integer.bitCount(now.live());
        return told(sets.weightThatServes(now.live(), x), power(10, lamps), upper);
    }

    public long seed(long v) {
        long before = theSeed;
        theSeed = v;
        return before;
    }

    public int drawn(int m) {
        if (m < 1 || m > MAX_DRAWS) {
            return OUTSIDE;
        }
        int together = 0;
        for (int time = 0; time < m; time++) {
            theSeed = theSeed * 6364136223846793005L + 1442695040888963407L;
            int v = (int) (theSeed >>> 33);
            for (int point = 0; point < floor.pointCount; point++) {
                if (now.sumOf(point) >= (v >> 5 * point & 31)) {
                    together++;
                }
            }
        }
        return together;
    }

    // ---- places to keep in

    public int keep(int slot) {
        if (slot < 0 || slot > 1) {
            return UNKNOWN;
        }
        slotAt(slot).copyFrom(now);
        filledSlots |= 1 << slot;
        return Integer.bitCount(now.hung);
    }

    public int again(int slot) {
        if (slot < 0 || slot > 1) {
            return UNKNOWN;
        }
        if ((filledSlots >> slot & 1) == 0) {
            return STATE;
        }
        now.copyFrom(slotAt(slot));
        acts.size = 0;
        return Integer.bitCount(now.hung);
    }

    public int count(int what) {
        switch (what) {
            case 0:
                return text.length;
            case 1:
                return floor.spotCount;
            case 2:
                return floor.pointCount;
            case 3:
                return floor.wallCount;
            case 4:
                return floor.glow;
            case 5:
                return now.hung;
            case 6:
                return now.dead;
            case 7:
                return now.standing;
            case 8:
                return now.servedPoints(now.live(), now.standing);
            case 9:
                return acts.size;
            case 10:
                return seen.size;
            default:
                return OUTSIDE;
        }
    }

    private Layout slotAt(int slot) {
        return slot == 0 ? firstKept : secondKept;
    }

    private int bestSpot() {
        int chosen = NONE;
        int most = 0;
        for (int spot = 0; spot < floor.spotCount; spot++) {
            if (now.lampAt(spot) != Layout.NO_LAMP) {
                continue;
            }
            int rank = now.rankOf(now.live() | 1 << spot, now.standing);
            if (chosen == NONE || rank > most) {
                chosen = spot;
                most = rank;
            }
        }
        return chosen;
    }

    private int worstWall() {
        int chosen = NONE;
        int most = 0;
        for (int wall = 0; wall < floor.wallCount; wall++) {
            if ((now.standing >> wall & 1) == 0) {
                continue;
            }
            int rank = now.rankOf(now.live(), now.standing & ~(1 << wall));
            if (chosen == NONE || rank > most) {
                chosen = wall;
                most = rank;
            }
        }
        return chosen;
    }

    private int evenness() {
        int least = Integer.MAX_VALUE;
        int greatest = 0;
        for (int point = 0; point < floor.pointCount; point++) {
            int sum = now.sumOf(point);
            least = Math.min(least, sum);
            greatest = Math.max(greatest, sum);
        }
        return greatest == 0 ? NONE : bitsOf(least / (float) greatest);
    }

    /** By doublings, which are exact, since Float's own function is outside the language; the part is 0 to 1. */
    private static int bitsOf(float part) {
        if (part <= 0f) {
            return 0;
        }
        float rest = part;
        int exponent = 127;
        for (int step = 0; step < 126 && rest < 1f; step++) {
            rest = rest * 2f;
            exponent--;
        }
        return (exponent << 23) + ((int) (rest * 8388608f) - 8388608);
    }

    private static int told(int above, int below, boolean upper) {
        int divisor = greatestDivisor(above, below);
        if (divisor < 1) {
            return upper ? above : below;
        }
        return (upper ? above : below) / divisor;
    }

    private static int greatestDivisor(int above, int below) {
        int greater = below;
        int smaller = above;
        // Euclid needs some forty steps at most for an int.
        for (int step = 0; step < 64 && smaller != 0; step++) {
            int rest = greater % smaller;
            greater = smaller;
            smaller = rest;
        }
        return greater;
    }

    private static int factorial(int n) {
        return n < 0 || n >= FACTORIALS.length ? 1 : FACTORIALS[n];
    }

    private static int power(int base, int exponent) {
        int product = 1;
        for (int i = 0; i < exponent; i++) {
            product *= base;
        }
        return product;
    }

    /** THE TEXT, and what makes it a PLAN or not. */
    private static final class Text {
        private final char[] letters = new char[MAX_LETTERS];
        private int length;

        private boolean append(char letter) {
            if (length < 0 || length >= MAX_LETTERS) {
                return false;
            }
            letters[length] = letter;
            length++;
            return true;
        }

        private char letterAt(int place) {
            return place < 0 || place >= length || place >= MAX_LETTERS ? (char) 0 : letters[place];
        }

        private int figureAt(int place) {
            return letterAt(place) - '0';
        }

        private int firstFault() {
            for (int place = 0; place < length; place++) {
                if (!fits(place)) {
                    return place;
                }
            }
            boolean ended = length >= HEAD && (length - HEAD) % PART == 0;
            return ended ? NONE : length;
        }

        private boolean fits(int place) {
            if (place == 0) {
                return letterAt(place) == 'L';
            }
            if (place < HEAD) {
                return isWithin(place, 0, 9);
            }
            int inPart = (place - HEAD) % PART;
            return inPart == 0 ? mayBegin(place) : fitsInPart(place, inPart);
        }

        private boolean mayBegin(int place) {
            char sign = letterAt(place);
            return partsAhead(sign, place) < mostParts(sign);
        }

        private static int mostParts(char sign) {
            if (sign == 's') {
                return MAX_SPOTS;
            }
            if (sign == 'f') {
                return MAX_POINTS;
            }
            return sign == 'w' ? MAX_WALLS : 0;
        }

        private int partsAhead(char sign, int place) {
            int parts = 0;
            for (int begin = HEAD; begin < place; begin += PART) {
                if (letterAt(begin) == sign) {
                    parts++;
                }
            }
            return parts;
        }

        private boolean fitsInPart(int place, int inPart) {
            char sign = letterAt(place - inPart);
            if (sign == 'w') {
                return isWithin(place, 0, 6) && !(inPart == PART_FIGURES && endsWhereItBegins(place));
            }
            if (inPart <= 2) {
                return isWithin(place, 0, 5);
            }
            return isWithin(place, sign == 's' ? 1 : 0, 9);
        }

        private boolean endsWhereItBegins(int place) {
            return letterAt(place) == letterAt(place - 2) && letterAt(place - 1) == letterAt(place - 3);
        }

        private boolean isWithin(int place, int least, int most) {
            int figure = figureAt(place);
            return figure >= least && figure <= most;
        }
    }

    /** What a PLAN tells once and for all; four figures each of SPOTS, POINTS, WALLS as the TEXT has them. */
    private static final class Floor {
        private final int[] table = new int[TABLE_FIGURES];
        private final int[] spots = new int[MAX_SPOTS * PART_FIGURES];
        private final int[] points = new int[MAX_POINTS * PART_FIGURES];
        private final int[] walls = new int[MAX_WALLS * PART_FIGURES];
        /** Of each SPOT and POINT: the WALLS on the RAY (bits), and the LIGHT if none of them stands. */
        private final int[] across = new int[MAX_SPOTS * MAX_POINTS];
        private final int[] bareLight = new int[MAX_SPOTS * MAX_POINTS];
        private int glow;
        private int spotCount;
        private int pointCount;
        private int wallCount;

        private boolean hasSpot(int spot) {
            return spot >= 0 && spot < spotCount;
        }

        private boolean hasPoint(int point) {
            return point >= 0 && point < pointCount;
        }

        private boolean hasWall(int wall) {
            return wall >= 0 && wall < wallCount;
        }

        private int spotFigure(int spot, int figure) {
            return figureOf(spots, spot, figure);
        }

        private int pointFigure(int point, int figure) {
            return figureOf(points, point, figure);
        }

        private int wallFigure(int wall, int figure) {
            return figureOf(walls, wall, figure);
        }

        private static int figureOf(int[] parts, int part, int figure) {
            int place = part * PART_FIGURES + figure;
            return place < 0 || place >= parts.length ? 0 : parts[place];
        }

        private int firstWant(int point) {
            return pointFigure(point, 2) * 10 + pointFigure(point, 3);
        }

        /** The TEXT has no FAULT here. */
        private void read(Text text) {
            for (int i = 0; i < TABLE_FIGURES; i++) {
                table[i] = text.figureAt(1 + i);
            }
            glow = text.figureAt(HEAD - 1);
            spotCount = readParts(text, 's', spots);
            pointCount = readParts(text, 'f', points);
            wallCount = readParts(text, 'w', walls);
            throwRays();
        }

        private static int readParts(Text text, char sign, int[] parts) {
            int filled = 0;
            for (int begin = HEAD; begin < text.length; begin += PART) {
                if (text.letterAt(begin) != sign || filled + PART_FIGURES > parts.length) {
                    continue;
                }
                for (int i = 0; i < PART_FIGURES; i++) {
                    parts[filled + i] = text.figureAt(begin + 1 + i);
                }
                filled += PART_FIGURES;
            }
            return filled / PART_FIGURES;
        }

        private void throwRays() {
            for (int spot = 0; spot < spotCount && spot < MAX_SPOTS; spot++) {
                for (int point = 0; point < pointCount && point < MAX_POINTS; point++) {
                    int ray = spot * MAX_POINTS + point;
                    bareLight[ray] = lightWithoutWalls(spot, point);
                    across[ray] = 0;
                    for (int wall = 0; wall < wallCount; wall++) {
                        if (meets(spot, point, wall)) {
                            across[ray] |= 1 << wall;
                        }
                    }
                }
            }
        }

        private int lightWithoutWalls(int spot, int point) {
            int dx = spotFigure(spot, 0) - pointFigure(point, 0);
            int dy = spotFigure(spot, 1) - pointFigure(point, 1);
            int q = dx * dx + dy * dy;
            return q < 0 || q >= TABLE_FIGURES ? 0 : spotFigure(spot, 2) * table[q];
        }

        /** In half CELLS, so that the midst of a CELL has whole numbers. */
        private boolean meets(int spot, int point, int wall) {
            int ax = 2 * spotFigure(spot, 0) + 1, ay = 2 * spotFigure(spot, 1) + 1;
            int bx = 2 * pointFigure(point, 0) + 1, by = 2 * pointFigure(point, 1) + 1;
            int cx = 2 * wallFigure(wall, 0), cy = 2 * wallFigure(wall, 1);
            int dx = 2 * wallFigure(wall, 2), dy = 2 * wallFigure(wall, 3);
            // The spans settle what sides can't: lines in one another, and a RAY that is one point.
            return spansMeet(ax, bx, cx, dx) && spansMeet(ay, by, cy, dy)
                && side(ax, ay, bx, by, cx, cy) * side(ax, ay, bx, by, dx, dy) <= 0
                && side(cx, cy, dx, dy, ax, ay) * side(cx, cy, dx, dy, bx, by) <= 0;
        }

        private static boolean spansMeet(int a, int b, int c, int d) {
            return Math.max(Math.min(a, b), Math.min(c, d)) <= Math.min(Math.max(a, b), Math.max(c, d));
        }

        /** On which side of the line from a to b the place c lies: 0 on it, else by its sign. */
        private static int side(int ax, int ay, int bx, int by, int cx, int cy) {
            return (bx - ax) * (cy - ay) - (by - ay) * (cx - ax);
        }

        private int wallsAcross(int spot, int point) {
            return hasSpot(spot) && hasPoint(point) ? across[spot * MAX_POINTS + point] : 0;
        }

        private int lightOf(int spot, int point, int standing) {
            if (!hasSpot(spot) || !hasPoint(point)) {
                return 0;
            }
            int ray = spot * MAX_POINTS + point;
            return (across[ray] & standing) != 0 ? 0 : bareLight[ray];
        }

        private int sumAt(int point, int live, int standing) {
            int sum = glow;
            for (int spot = 0; spot < spotCount; spot++) {
                if ((live >> spot & 1) != 0) {
                    sum += lightOf(spot, point, standing);
                }
            }
            return sum;
        }

        private int sumOfAll(int live, int standing) {
            int sum = 0;
            for (int point = 0; point < pointCount; point++) {
                sum += sumAt(point, live, standing);
            }
            return sum;
        }

        private int priceOf(int set) {
            int price = 0;
            for (int spot = 0; spot < spotCount; spot++) {
                if ((set >> spot & 1) != 0) {
                    price += spotFigure(spot, 3);
                }
            }
            return price;
        }
    }

    /** What ACTS change and SLOTS keep. */
    private static final class Layout {
        private static final int NO_LAMP = 0, LIVE_LAMP = 1, DEAD_LAMP = 2;

        private final Floor floor;
        private final int[] wants = new int[MAX_POINTS];
        private int hung;
        private int dead;
        private int standing;

        private Layout(Floor floor) {
            this.floor = floor;
        }

        private void begin() {
            hung = 0;
            dead = 0;
            standing = (1 << floor.wallCount) - 1;
            for (int point = 0; point < MAX_POINTS; point++) {
                wants[point] = floor.hasPoint(point) ? floor.firstWant(point) : 0;
            }
        }

        private void copyFrom(Layout other) {
            hung = other.hung;
            dead = other.dead;
            standing = other.standing;
            for (int point = 0; point < MAX_POINTS; point++) {
                wants[point] = other.wants[point];
            }
        }

        private int live() {
            return hung & ~dead;
        }

        private int lampAt(int spot) {
            if ((hung >> spot & 1) == 0) {
                return NO_LAMP;
            }
            return (dead >> spot & 1) == 0 ? LIVE_LAMP : DEAD_LAMP;
        }

        private void putLamp(int spot, int lamp) {
            int bit = 1 << spot;
            hung = lamp == NO_LAMP ? hung & ~bit : hung | bit;
            dead = lamp == DEAD_LAMP ? dead | bit : dead & ~bit;
        }

        private void turnLamp(int spot) {
            putLamp(spot, lampAt(spot) == NO_LAMP ? LIVE_LAMP : NO_LAMP);
        }

        private void turnDead(int spot) {
            putLamp(spot, lampAt(spot) == DEAD_LAMP ? LIVE_LAMP : DEAD_LAMP);
        }

        private void turnWall(int wall) {
            standing ^= 1 << wall;
        }

        private int wantOf(int point) {
            return point < 0 || point >= MAX_POINTS ? 0 : wants[point];
        }

        private void tellWant(int point, int v) {
            if (point >= 0 && point < MAX_POINTS) {
                wants[point] = v;
            }
        }

        private int sumOf(int point) {
            return floor.sumAt(point, live(), standing);
        }

        private boolean isServed(int point) {
            return sumOf(point) >= wantOf(point);
        }

        /** By the LAMPS and WALLS told, which need not be those of this layout. */
        private int servedPoints(int lamps, int walls) {
            int served = 0;
            for (int point = 0; point < floor.pointCount; point++) {
                if (floor.sumAt(point, lamps, walls) >= wantOf(point)) {
                    served |= 1 << point;
                }
            }
            return served;
        }

        /** POINTS that are SERVED come ahead of SUMS: six SUMS of at most 9 + 8 * 81 stay far below 10000. */
        private int rankOf(int lamps, int walls) {
            return Integer.bitCount(servedPoints(lamps, walls)) * 10000 + floor.sumOfAll(lamps, walls);
        }

        /** A doing told as four figures: done here, or asked; false if it can not be, or is not so. */
        private boolean goesWell(int doing) {
            int a = doing / 100 % 10;
            int b = doing / 10 % 10;
            int c = doing % 10;
            switch (doing / 1000) {
                case HUNG:
                    return b == 0 && c == 0 && triesLamp(a);
                case DIED:
                    return b == 0 && c == 0 && triesDead(a);
                case BUILT:
                    return b == 0 && c == 0 && triesWall(a);
                case SUM_IS:
                    return floor.hasPoint(a) && sumOf(a) >= 10 * b + c;
                case SERVED_IS:
                    return floor.hasPoint(a) && b <= 1 && c == 0 && isServed(a) == (b == 1);
                case WANTED:
                    return triesWant(a, 10 * b + c);
                case SHADED_IS:
                    return floor.hasSpot(a) && floor.hasPoint(b) && c <= 1 && isShaded(a, b) == (c == 1);
                default:
                    return false;
            }
        }

        private boolean triesLamp(int spot) {
            if (!floor.hasSpot(spot)) {
                return false;
            }
            turnLamp(spot);
            return true;
        }

        private boolean triesDead(int spot) {
            if (!floor.hasSpot(spot) || lampAt(spot) == NO_LAMP) {
                return false;
            }
            turnDead(spot);
            return true;
        }

        private boolean triesWall(int wall) {
            if (!floor.hasWall(wall)) {
                return false;
            }
            turnWall(wall);
            return true;
        }

        private boolean triesWant(int point, int v) {
            if (!floor.hasPoint(point)) {
                return false;
            }
            tellWant(point, v);
            return true;
        }

        private boolean isShaded(int spot, int point) {
            return (floor.wallsAcross(spot, point) & standing) != 0;
        }
    }

    /** THE ROW of ACTS, each with what was there before it. */
    private static final class Acts {
        private final int[] kinds = new int[MAX_ACTS];
        private final int[] numbers = new int[MAX_ACTS];
        private final int[] befores = new int[MAX_ACTS];
        private int size;

        private void add(int kind, int number, int before) {
            if (size >= MAX_ACTS) {
                forgetFirst();
            }
            if (size < 0 || size >= MAX_ACTS) {
                return;
            }
            kinds[size] = kind;
            numbers[size] = number;
            befores[size] = before;
            size++;
        }

        private void forgetFirst() {
            for (int i = 1; i < MAX_ACTS; i++) {
                kinds[i - 1] = kinds[i];
                numbers[i - 1] = numbers[i];
                befores[i - 1] = befores[i];
            }
            size = MAX_ACTS - 1;
        }

        private boolean takeBack(Layout layout) {
            if (size < 1 || size > MAX_ACTS) {
                return false;
            }
            size--;
            if (kinds[size] == BUILT) {
                layout.turnWall(numbers[size]);
            } else if (kinds[size] == WANTED) {
                layout.tellWant(numbers[size], befores[size]);
            } else {
                layout.putLamp(numbers[size], befores[size]);
            }
            return true;
        }
    }

    /** What was SEEN; another PLAN leaves it, so POINTS in it need not be there. */
    private static final class Seen {
        private final int[] points = new int[MAX_SEEN];
        private final int[] values = new int[MAX_SEEN];
        private final boolean[] were = new boolean[MAX_SEEN];
        private int size;

        private boolean add(int point, int value, boolean was) {
            if (size < 0 || size >= MAX_SEEN) {
                return false;
            }
            points[size] = point;
            values[size] = value;
            were[size] = was;
            size++;
            return true;
        }

        private boolean agrees(Floor floor, int live, int standing) {
            for (int i = 0; i < size && i < MAX_SEEN; i++) {
                if (!floor.hasPoint(points[i])) {
                    continue;
                }
                boolean reached = floor.sumAt(points[i], live, standing) >= values[i];
                if (reached != were[i]) {
                    return false;
                }
            }
            return true;
        }
    }

    /** All sets of SPOTS at once: which POINTS each serves. The rows are made once and weighed anew each call. */
    private static final class Sets {
        private final Floor floor;
        private final int[] served = new int[MAX_SETS];
        private final int[] sums = new int[MAX_SETS];

        private Sets(Floor floor) {
            this.floor = floor;
        }

        private int setCount() {
            return Math.min(1 << floor.spotCount, MAX_SETS);
        }

        private void weigh(Layout layout) {
            int all = setCount();
            for (int set = 0; set < all; set++) {
                served[set] = 0;
            }
            for (int point = 0; point < floor.pointCount; point++) {
                sumUp(point, layout.standing);
                int want = layout.wantOf(point);
                for (int set = 0; set < all; set++) {
                    if (sums[set] >= want) {
                        served[set] |= 1 << point;
                    }
                }
            }
        }

        /** The sets with a SPOT come behind all sets of SPOTS ahead of it, so each needs one LIGHT more alone. */
        private void sumUp(int point, int standing) {
            sums[0] = floor.glow;
            for (int spot = 0; spot < floor.spotCount && spot < MAX_SPOTS; spot++) {
                int bit = 1 << spot;
                int more = floor.lightOf(spot, point, standing);
                for (int set = 0; set < bit; set++) {
                    sums[bit + set] = sums[set] + more;
                }
            }
        }

        private int servedBy(int set) {
            return set < 0 || set >= MAX_SETS ? 0 : served[set];
        }

        private boolean servesAll(int set) {
            return servedBy(set) == (1 << floor.pointCount) - 1;
        }

        private boolean servesWithoutAnyOne(int set) {
            for (int spot = 0; spot < floor.spotCount; spot++) {
                if ((set >> spot & 1) != 0 && !servesAll(set & ~(1 << spot))) {
                    return false;
                }
            }
            return true;
        }

        private int choose(int how) {
            int chosen = NONE;
            int least = 0;
            for (int set = 0; set < setCount(); set++) {
                if (!servesAll(set) || how == SAFE && !servesWithoutAnyOne(set)) {
                    continue;
                }
                int rank = rankOf(how, set);
                if (chosen == NONE || rank < least) {
                    chosen = set;
                    least = rank;
                }
            }
            return chosen;
        }

        /** FEWEST looks at SPOTS ahead of the PRICE: eight PRICES of at most 9 stay below 100. */
        private int rankOf(int how, int set) {
            return floor.priceOf(set) + (how == FEWEST ? 100 * Integer.bitCount(set) : 0);
        }

        private int leastPriceFor(int point) {
            int least = NONE;
            for (int set = 0; set < setCount(); set++) {
                if ((servedBy(set) >> point & 1) == 0) {
                    continue;
                }
                int price = floor.priceOf(set);
                if (least == NONE || price < least) {
                    least = price;
                }
            }
            return least;
        }

        /** By how many more POINTS are SERVED when the SPOT's LAMP has come, over all orders of the LAMPS. */
        private int gainInAllOrders(int spot, int lamps) {
            int bit = 1 << spot;
            int others = Integer.bitCount(lamps) - 1;
            int gain = 0;
            for (int set = 0; set < setCount(); set++) {
                if ((set & ~lamps) != 0 || (set & bit) == 0) {
                    continue;
                }
                int ahead = Integer.bitCount(set) - 1;
                int more = Integer.bitCount(servedBy(set)) - Integer.bitCount(servedBy(set & ~bit));
                gain += more * factorial(ahead) * factorial(others - ahead);
            }
            return gain;
        }

        /** The sets of LAMPS that live on and serve all, each weighed by how likely it is in tenths. */
        private int weightThatServes(int lamps, int x) {
            int weight = 0;
            for (int set = 0; set < setCount(); set++) {
                if ((set & ~lamps) == 0 && servesAll(set)) {
                    int living = Integer.bitCount(set);
                    weight += power(10 - x, living) * power(x, Integer.bitCount(lamps) - living);
                }
            }
            return weight;
        }
    }
}

/**
 * Areas with holes that bar gears on days, and tracks of places in time: where a track
 * enters and leaves an area, as exact fractions of its pieces.
 *
 * All arithmetic is on whole numbers: coordinates stay within 200, so that a cut of a piece is
 * a fraction whose parts stay within 320,000, and every product below fits into a long.
 */
public final class AreaCrossings {
    private static final int MOST_AREAS = 12;
    private static final int MOST_TRACKS = 6;
    private static final int FURTHEST_COORDINATE = 200;
    private static final int GEARS = 8;
    private static final int LAST_DAY = 400;
    private static final int DAYS_BEHIND_A_REPORT = 2;
    private static final int LARGEST_REPORT = 20;
    private static final int WIDEST_BUFFER = 400;
    private static final long FASTEST = 100_000L;

    private final Area[] areas;
    private final Rules rules;
    private final Track[] tracks;
    private int trackCount;
    private final Stretches stretches;
    private Crossings last;
    // A run writes here first: one that is refused must leave the last run's crossings alone.
    private Crossings spare;

    public AreaCrossings(int areas) {
        this.areas = new Area[Math.max(1, Math.min(MOST_AREAS, areas))];
        for (int i = 0; i < this.areas.length; i++) {
            this.areas[i] = new Area();
        }
        rules = new Rules();
        tracks = new Track[MOST_TRACKS];
        for (int i = 0; i < tracks.length; i++) {
            tracks[i] = new Track();
        }
        trackCount = 0;
        stretches = new Stretches();
        last = new Crossings();
        spare = new Crossings();
    }

    public boolean corner(int area, long x, long y) throws ArrayIndexOutOfBoundsException {
        if (!isArea(area)) {
            throw new ArrayIndexOutOfBoundsException();
        }
        return isPlace(x, y) && areas[area].addCorner((int) x, (int) y);
    }

    public boolean ring(int area) {
        return isArea(area) && areas[area].closeRing();
    }

    public boolean hole(int area) {
        return isArea(area) && areas[area].beginHole();
    }

    public boolean bars(int area, int gear, int fromDay, int toDay) {
        if (!isArea(area) || !isGear(gear)) {
            return false;
        }
        if (fromDay < 0 || toDay > LAST_DAY || fromDay > toDay) {
            return false;
        }
        return rules.add(area, gear, fromDay, toDay);
    }

    public boolean speed(int area, long least) {
        if (!isArea(area) || least < 0 || least > FASTEST) {
            return false;
        }
        areas[area].setFastFrom(least);
        return true;
    }

    public int report(long x, long y, long day, int size) {
        if (!isPlace(x, y) || day < 0 || day > LAST_DAY - DAYS_BEHIND_A_REPORT) {
            return -1;
        }
        if (size < 1 || size > LARGEST_REPORT) {
            return -1;
        }
        if (!isPlace(x - size, y - size) || !isPlace(x + size, y + size)) {
            return -1;
        }
        int area = firstUntouchedArea();
        if (area < 0 || rules.room() < GEARS) {
            return -4;
        }
        areas[area].becomeSquare((int) x, (int) y, size);
        for (int gear = 0; gear < GEARS; gear++) {
            rules.add(area, gear, (int) day, (int) day + DAYS_BEHIND_A_REPORT);
        }
        return area;
    }

    public int track() {
        if (trackCount >= tracks.length) {
            return -4;
        }
        return trackCount++;
    }

    public boolean place(int track, long second, long x, long y) {
        return isTrack(track) && isPlace(x, y) && tracks[track].add(second, (int) x, (int) y);
    }

    public int run(int track, int gear) {
        if (!isTrack(track)) {
            return -1;
        }
        if (!isGear(gear)) {
            return -2;
        }
        spare.clear();
        Track path = tracks[track];
        for (int piece = 0; piece < path.pieces(); piece++) {
            for (int area = 0; area < areas.length; area++) {
                if (counts(area, gear, path, piece) && !noteCrossings(area, gear, path, piece)) {
                    return -4;
                }
            }
        }
        Crossings done = spare;
        spare = last;
        last = done;
        return last.size();
    }

    public long entry(int k, int part) {
        if (!last.has(k)) {
            return -1;
        }
        switch (part) {
            case 0:
                return last.pieceOf(k);
            case 1:
                return last.overOf(k);
            case 2:
                return last.underOf(k);
            case 3:
                return last.areaOf(k);
            default:
                return -2;
        }
    }

    public int side(int k) {
        if (!last.has(k)) {
            return -1;
        }
        return last.isEntering(k) ? 1 : 0;
    }

    public long inside(int area, int track, int part) {
        if (!isThere(area) || !isTrack(track)) {
            return -1;
        }
        Track path = tracks[track];
        if (part >= 0 && part < path.pieces()) {
            return thousandthsIn(areas[area], path, part);
        }
        if (part != -1) {
            return -1;
        }
        long sum = 0;
        for (int piece = 0; piece < path.pieces(); piece++) {
            sum += thousandthsIn(areas[area], path, piece);
        }
        return sum;
    }

    public boolean maybe(int track, int gap) {
        if (!isTrack(track)) {
            return false;
        }
        int piece = tracks[track].pieceOfGap(gap);
        if (piece < 0) {
            return false;
        }
        for (int area = 0; area < areas.length; area++) {
            if (isThere(area) && mayHaveBeenNear(areas[area], tracks[track], piece)) {
                return true;
            }
        }
        return false;
    }

    public int buffer(int area, long metres) {
        if (!isThere(area)) {
            return -1;
        }
        if (metres < 0 || metres > WIDEST_BUFFER) {
            return -2;
        }
        int near = 0;
        for (int track = 0; track < trackCount && track < tracks.length; track++) {
            Track path = tracks[track];
            for (int i = 0; i < path.places(); i++) {
                if (areas[area].isInOrNear(path.xOf(i), path.yOf(i), metres)) {
                    near++;
                }
            }
        }
        return near;
    }

    public boolean told(int area, long day) {
        return isThere(area) && rules.barAny(area, day);
    }

    public int overlap(int areaA, int areaB) {
        if (!isThere(areaA) || !isThere(areaB) || areaA == areaB) {
            return -1;
        }
        Ring first = areas[areaA].outer();
        Ring other = areas[areaB].outer();
        if (first.meets(other)) {
            return 1;
        }
        // As no sides meet, one corner tells where the whole ring lies.
        if (other.holdsFirstCornerOf(first)) {
            return 2;
        }
        return first.holdsFirstCornerOf(other) ? 3 : 0;
    }

    public int cell(int x, int y, long day) {
        if (!isPlace(x, y)) {
            return 0;
        }
        int barring = 0;
        for (int area = 0; area < areas.length; area++) {
            if (isThere(area) && rules.barAny(area, day) && areas[area].contains(x, y, 1)) {
                barring++;
            }
        }
        return barring;
    }

    private boolean isArea(int area) {
        return area >= 0 && area < areas.length;
    }

    private boolean isThere(int area) {
        return isArea(area) && areas[area].isThere();
    }

    private boolean isTrack(int track) {
        return track >= 0 && track < trackCount && track < tracks.length;
    }

    private static boolean isGear(int gear) {
        return gear >= 0 && gear < GEARS;
    }

    private static boolean isPlace(long x, long y) {
        return isCoordinate(x) && isCoordinate(y);
    }

    private static boolean isCoordinate(long value) {
        return value >= -FURTHEST_COORDINATE && value <= FURTHEST_COORDINATE;
    }

    private int firstUntouchedArea() {
        for (int area = 0; area < areas.length; area++) {
            if (areas[area].isUntouched()) {
                return area;
            }
        }
        return -1;
    }

    private boolean counts(int area, int gear, Track path, int piece) {
        if (!isThere(area) || !path.hasPiece(piece) || path.isGap(piece)) {
            return false;
        }
        return rules.bar(area, gear, path.dayOf(piece)) && !path.isFast(piece, areas[area].fastFrom());
    }

    /** False if there is no room for all of them. */
    private boolean noteCrossings(int area, int gear, Track path, int piece) {
        boolean countedBefore = counts(area, gear, path, piece - 1);
        stretches.find(areas[area], path, piece);
        for (int i = 0; i < stretches.size(); i++) {
            int begin = stretches.beginOf(i);
            int end = stretches.endOf(i);
            // Where the piece before counted, it has entered already, at its own end at the latest.
            boolean enters = !(countedBefore && stretches.isPieceBegin(begin));
            if (enters && !spare.add(piece, area, true, stretches.overOf(begin), stretches.underOf(begin))) {
                return false;
            }
            boolean leaves = !stretches.isPieceEnd(end);
            if (leaves && !spare.add(piece, area, false, stretches.overOf(end), stretches.underOf(end))) {
                return false;
            }
        }
        return true;
    }

    private long thousandthsIn(Area area, Track path, int piece) {
        if (path.isGap(piece)) {
            return 0;
        }
        stretches.find(area, path, piece);
        long sum = 0;
        for (int i = 0; i < stretches.size(); i++) {
            sum += stretches.shareOf(i, path.secondsOf(piece) * 1000L);
        }
        return sum;
    }

    private static boolean mayHaveBeenNear(Area area, Track path, int piece) {
        long wider = path.hoursBegunOf(piece);
        long x = path.xOf(piece);
        long y = path.yOf(piece);
        long nextX = path.xOf(piece + 1);
        long nextY = path.yOf(piece + 1);
        Ring outer = area.outer();
        return outer.reachesX(Math.min(x, nextX) - wider, Math.max(x, nextX) + wider)
            && outer.reachesY(Math.min(y, nextY) - wider, Math.max(y, nextY) + wider);
    }

    /** A row of corners; its sides go from each to the next one, and from the last to the first. */
    private static final class Ring {
        static final int MOST_CORNERS = 12;
        private static final int FEWEST_CORNERS = 3;
        static final int OUT = -1;
        static final int ON = 0;
        static final int IN = 1;

        private final int[] xs = new int[MOST_CORNERS];
        private final int[] ys = new int[MOST_CORNERS];
        private int size = 0;

        int size() {
            return size;
        }

        void clear() {
            size = 0;
        }

        boolean add(int x, int y) {
            if (size >= MOST_CORNERS) {
                return false;
            }
            xs[size] = x;
            ys[size] = y;
            size++;
            return true;
        }

        int xOf(int k) {
            return k >= 0 && k < size ? xs[k] : 0;
        }

        int yOf(int k) {
            return k >= 0 && k < size ? ys[k] : 0;
        }

        int next(int k) {
            return k + 1 < size ? k + 1 : 0;
        }

        boolean isSimple() {
            if (size < FEWEST_CORNERS) {
                return false;
            }
            for (int i = 0; i < size; i++) {
                if (foldsBackAt(next(i), i, next(next(i)))) {
                    return false;
                }
                for (int j = i + 1; j < size; j++) {
                    if (xs[i] == xs[j] && ys[i] == ys[j]) {
                        return false;
                    }
                    boolean neighbours = next(i) == j || next(j) == i;
                    if (!neighbours && sidesMeet(i, this, j)) {
                        return false;
                    }
                }
            }
            return true;
        }

        /** Two sides with a corner in common share more than it only if both go the same way from it. */
        private boolean foldsBackAt(int k, int before, int behind) {
            int beforeX = xs[before] - xs[k];
            int beforeY = ys[before] - ys[k];
            int behindX = xs[behind] - xs[k];
            int behindY = ys[behind] - ys[k];
            return beforeX * behindY == beforeY * behindX && beforeX * behindX + beforeY * behindY > 0;
        }

        boolean meets(Ring other) {
            for (int i = 0; i < size; i++) {
                for (int j = 0; j < other.size; j++) {
                    if (sidesMeet(i, other, j)) {
                        return true;
                    }
                }
            }
            return false;
        }

        private boolean sidesMeet(int i, Ring other, int j) {
            int myEnd = next(i);
            int itsEnd = other.next(j);
            long itsBeginTurn = turn(i, other.xs[j], other.ys[j], 1);
            long itsEndTurn = turn(i, other.xs[itsEnd], other.ys[itsEnd], 1);
            long myBeginTurn = other.turn(j, xs[i], ys[i], 1);
            long myEndTurn = other.turn(j, xs[myEnd], ys[myEnd], 1);
            if (areOpposite(itsBeginTurn, itsEndTurn) && areOpposite(myBeginTurn, myEndTurn)) {
                return true;
            }
            return itsBeginTurn == 0 && spans(i, other.xs[j], other.ys[j], 1)
                || itsEndTurn == 0 && spans(i, other.xs[itsEnd], other.ys[itsEnd], 1)
                || myBeginTurn == 0 && other.spans(j, xs[i], ys[i], 1)
                || myEndTurn == 0 && other.spans(j, xs[myEnd], ys[myEnd], 1);
        }

        private static boolean areOpposite(long a, long b) {
            return a < 0 && b > 0 || a > 0 && b < 0;
        }

        /** Above 0 if the place x / w, y / w is left of side k, below 0 if it is right of it. */
        private long turn(int k, long x, long y, long w) {
            int end = next(k);
            long alongX = xs[end] - xs[k];
            long alongY = ys[end] - ys[k];
            return alongX * (y - ys[k] * w) - alongY * (x - xs[k] * w);
        }

        /** Whether the place x / w, y / w is in the least rectangle of side k. */
        private boolean spans(int k, long x, long y, long w) {
            int end = next(k);
            return x >= Math.min(xs[k], xs[end]) * w && x <= Math.max(xs[k], xs[end]) * w
                && y >= Math.min(ys[k], ys[end]) * w && y <= Math.max(ys[k], ys[end]) * w;
        }

        /** Whether the place x / w, y / w is IN the ring, ON it or OUT of it. */
        int locate(long x, long y, long w) {
            boolean odd = false;
            for (int k = 0; k < size; k++) {
                long turn = turn(k, x, y, w);
                if (turn == 0 && spans(k, x, y, w)) {
                    return ON;
                }
                boolean beginsAbove = ys[k] * w > y;
                boolean endsAbove = ys[next(k)] * w > y;
                // A ray to the right meets a rising side that the place is left of, and a falling one
                // that it is right of.
                if (beginsAbove != endsAbove && (turn > 0) == endsAbove) {
                    odd = !odd;
                }
            }
            return odd ? IN : OUT;
        }

        boolean holdsFirstCornerOf(Ring other) {
            return locate(other.xOf(0), other.yOf(0), 1) == IN;
        }

        boolean isNear(long x, long y, long distance) {
            for (int k = 0; k < size; k++) {
                if (isSideNear(k, x, y, distance)) {
                    return true;
                }
            }
            return false;
        }

        private boolean isSideNear(int k, long x, long y, long distance) {
            int end = next(k);
            long alongX = xs[end] - xs[k];
            long alongY = ys[end] - ys[k];
            long toX = x - xs[k];
            long toY = y - ys[k];
            long length = alongX * alongX + alongY * alongY;
            long foot = toX * alongX + toY * alongY;
            if (foot <= 0) {
                return toX * toX + toY * toY <= distance * distance;
            }
            if (foot >= length) {
                long endX = x - xs[end];
                long endY = y - ys[end];
                return endX * endX + endY * endY <= distance * distance;
            }
            long turn = turn(k, x, y, 1);
            return turn * turn <= distance * distance * length;
        }

        boolean reachesX(long least, long most) {
            return reaches(xs, least, most);
        }

        boolean reachesY(long least, long most) {
            return reaches(ys, least, most);
        }

        private boolean reaches(int[] values, long least, long most) {
            boolean someBelow = false;
            boolean someAbove = false;
            for (int k = 0; k < size && k < values.length; k++) {
                someBelow = someBelow || values[k] <= most;
                someAbove = someAbove || values[k] >= least;
            }
            return someBelow && someAbove;
        }
    }

    /** An outer ring and holes: the closed rings come first, the one that is being made behind them. */
    private static final class Area {
        static final int MOST_RINGS = 4;

        private final Ring[] rings = new Ring[MOST_RINGS];
        private int closed = 0;
        private boolean making = true;
        private long fastFrom = 0;

        Area() {
            for (int i = 0; i < MOST_RINGS; i++) {
                rings[i] = new Ring();
            }
        }

        boolean isThere() {
            return closed > 0;
        }

        boolean isUntouched() {
            return closed == 0 && outer().size() == 0;
        }

        Ring outer() {
            return rings[0];
        }

        int closedRings() {
            return closed;
        }

        /** Of the rings that are closed; the outer one for a number that none of them has. */
        Ring ringOf(int i) {
            return i > 0 && i < closed && i < MOST_RINGS ? rings[i] : rings[0];
        }

        long fastFrom() {
            return fastFrom;
        }

        void setFastFrom(long least) {
            fastFrom = least;
        }

        boolean addCorner(int x, int y) {
            Ring made = beingMade();
            return made != null && made.add(x, y);
        }

        private Ring beingMade() {
            return making && closed >= 0 && closed < MOST_RINGS ? rings[closed] : null;
        }

        boolean beginHole() {
            if (making || closed < 1 || closed >= MOST_RINGS) {
                return false;
            }
            rings[closed].clear();
            making = true;
            return true;
        }

        boolean closeRing() {
            Ring made = beingMade();
            if (made == null) {
                return false;
            }
            if (made.isSimple() && (closed == 0 || fitsAsHole(made))) {
                closed++;
                making = false;
                return true;
            }
            made.clear();
            making = closed == 0;
            return false;
        }

        private boolean fitsAsHole(Ring made) {
            for (int i = 0; i < closed; i++) {
                if (made.meets(ringOf(i))) {
                    return false;
                }
            }
            return contains(made.xOf(0), made.yOf(0), 1);
        }

        void becomeSquare(int x, int y, int size) {
            Ring square = outer();
            square.clear();
            square.add(x - size, y - size);
            square.add(x + size, y - size);
            square.add(x + size, y + size);
            square.add(x - size, y + size);
            closed = 1;
            making = false;
        }

        /** Whether the place x / w, y / w is in the area, or on one of its rings. */
        boolean contains(long x, long y, long w) {
            if (!isThere() || outer().locate(x, y, w) == Ring.OUT) {
                return false;
            }
            for (int i = 1; i < closed; i++) {
                if (ringOf(i).locate(x, y, w) == Ring.IN) {
                    return false;
                }
            }
            return true;
        }

        boolean isInOrNear(long x, long y, long distance) {
            for (int i = 0; i < closed; i++) {
                if (ringOf(i).isNear(x, y, distance)) {
                    return true;
                }
            }
            return contains(x, y, 1);
        }
    }

    /** Which area bars which gear, from which day to which. */
    private static final class Rules {
        private static final int MOST_RULES = 40;

        private final int[] areaOf = new int[MOST_RULES];
        private final int[] gearOf = new int[MOST_RULES];
        private final int[] firstDayOf = new int[MOST_RULES];
        private final int[] lastDayOf = new int[MOST_RULES];
        private int size = 0;

        int room() {
            return MOST_RULES - size;
        }

        boolean add(int area, int gear, int firstDay, int lastDay) {
            if (size >= MOST_RULES) {
                return false;
            }
            areaOf[size] = area;
            gearOf[size] = gear;
            firstDayOf[size] = firstDay;
            lastDayOf[size] = lastDay;
            size++;
            return true;
        }

        boolean bar(int area, int gear, long day) {
            for (int i = 0; i < size; i++) {
                if (gearOf[i] == gear && applies(i, area, day)) {
                    return true;
                }
            }
            return false;
        }

        boolean barAny(int area, long day) {
            for (int i = 0; i < size; i++) {
                if (applies(i, area, day)) {
                    return true;
                }
            }
            return false;
        }

        private boolean applies(int i, int area, long day) {
            return areaOf[i] == area && firstDayOf[i] <= day && day <= lastDayOf[i];
        }
    }

    /** Places in time; piece i goes from place i to the next one. */
    private static final class Track {
        private static final int MOST_PLACES = 30;
        private static final long LAST_SECOND = 40_000_000L;
        private static final long SECONDS_OF_A_DAY = 86_400L;
        private static final long SECONDS_OF_AN_HOUR = 3600L;

        private final long[] seconds = new long[MOST_PLACES];
        private final int[] xs = new int[MOST_PLACES];
        private final int[] ys = new int[MOST_PLACES];
        private int size = 0;

        boolean add(long second, int x, int y) {
            if (size >= MOST_PLACES || second < 0 || second > LAST_SECOND) {
                return false;
            }
            if (size > 0 && second <= seconds[size - 1]) {
                return false;
            }
            seconds[size] = second;
            xs[size] = x;
            ys[size] = y;
            size++;
            return true;
        }

        int places() {
            return size;
        }

        int pieces() {
            return Math.max(0, size - 1);
        }

        boolean hasPiece(int piece) {
            return piece >= 0 && piece < size - 1;
        }

        int xOf(int i) {
            return i >= 0 && i < size ? xs[i] : 0;
        }

        int yOf(int i) {
            return i >= 0 && i < size ? ys[i] : 0;
        }

        long secondsOf(int piece) {
            return hasPiece(piece) ? seconds[piece + 1] - seconds[piece] : 0;
        }

        long hoursBegunOf(int piece) {
            return (secondsOf(piece) + SECONDS_OF_AN_HOUR - 1) / SECONDS_OF_AN_HOUR;
        }

        long dayOf(int piece) {
            return hasPiece(piece) ? seconds[piece] / SECONDS_OF_A_DAY : -1;
        }

        boolean isGap(int piece) {
            return secondsOf(piece) > SECONDS_OF_AN_HOUR;
        }

        int pieceOfGap(int gap) {
            int seen = 0;
            for (int piece = 0; piece < pieces(); piece++) {
                if (isGap(piece)) {
                    if (seen == gap) {
                        return piece;
                    }
                    seen++;
                }
            }
            return -1;
        }

        /** Squares are compared, as the length of a piece is seldom a whole number. */
        boolean isFast(int piece, long unitsAnHour) {
            if (unitsAnHour <= 0 || isGap(piece)) {
                return false;
            }
            long alongX = xOf(piece + 1) - xOf(piece);
            long alongY = yOf(piece + 1) - yOf(piece);
            long length = alongX * alongX + alongY * alongY;
            long least = unitsAnHour * secondsOf(piece);
            return length * SECONDS_OF_AN_HOUR * SECONDS_OF_AN_HOUR >= least * least;
        }
    }

    /**
     * The stretches of one piece that are in one area, each as long as can be. The piece is cut
     * where it meets a side, so that what is between two neighbouring cuts is in the area as a
     * whole or not at all.
     */
    private static final class Stretches {
        // Both ends of the piece, and one for each side.
        private static final int MOST_CUTS = 2 + Area.MOST_RINGS * Ring.MOST_CORNERS;
        private static final int MOST_STEPS_OF_A_DIVISOR = 100;

        private final long[] overs = new long[MOST_CUTS];
        private final long[] unders = new long[MOST_CUTS];
        private int cuts = 0;
        private final int[] begins = new int[MOST_CUTS];
        private final int[] ends = new int[MOST_CUTS];
        private int size = 0;
        private long fromX = 0;
        private long fromY = 0;
        private long alongX = 0;
        private long alongY = 0;

        void find(Area area, Track path, int piece) {
            cutPiece(area, path, piece);
            size = 0;
            boolean open = false;
            for (int i = 0; i < cuts; i++) {
                if (!open && isIn(area, overs[i], unders[i])) {
                    begins[size] = i;
                    open = true;
                }
                // The rings belong to the area, so a stretch that goes on behind one cut has the next one too.
                boolean goesOn = open && i + 1 < cuts && isIn(area, middleOver(i), middleUnder(i));
                if (open && !goesOn) {
                    ends[size] = i;
                    size++;
                    open = false;
                }
            }
        }

        private void cutPiece(Area area, Track path, int piece) {
            fromX = path.xOf(piece);
            fromY = path.yOf(piece);
            alongX = path.xOf(piece + 1) - fromX;
            alongY = path.yOf(piece + 1) - fromY;
            cuts = 0;
            addCut(0, 1);
            addCut(1, 1);
            for (int i = 0; i < area.closedRings(); i++) {
                Ring ring = area.ringOf(i);
                for (int k = 0; k < ring.size(); k++) {
                    cutAtSide(ring, k);
                }
            }
        }

        private void cutAtSide(Ring ring, int k) {
            int end = ring.next(k);
            long sideX = ring.xOf(end) - ring.xOf(k);
            long sideY = ring.yOf(end) - ring.yOf(k);
            long toX = ring.xOf(k) - fromX;
            long toY = ring.yOf(k) - fromY;
            long under = alongX * sideY - alongY * sideX;
            long over = toX * sideY - toY * sideX;
            long sideOver = toX * alongY - toY * alongX;
            // Under is 0 if the side goes the same way as the piece. Even if it lies along the piece it
            // needs no cut of its own: the sides next to it cut the piece at its ends.
            long sign = under < 0 ? -1 : 1;
            if (isShare(sideOver * sign, under * sign)) {
                addCut(over * sign, under * sign);
            }
        }

        private static boolean isShare(long over, long under) {
            return under > 0 && over >= 0 && over <= under;
        }

        /** Keeps the cuts in order and each but once; what is no place of the piece is left out. */
        private void addCut(long over, long under) {
            if (!isShare(over, under) || cuts >= MOST_CUTS) {
                return;
            }
            int at = cuts;
            for (int i = cuts - 1; i >= 0 && over * unders[i] <= overs[i] * under; i--) {
                at = i;
            }
            if (at < cuts && over * unders[at] == overs[at] * under) {
                return;
            }
            for (int i = cuts; i > at; i--) {
                overs[i] = overs[i - 1];
                unders[i] = unders[i - 1];
            }
            long divisor = greatestDivisor(over, under);
            overs[at] = divisor > 0 ? over / divisor : over;
            unders[at] = divisor > 0 ? under / divisor : under;
            cuts++;
        }

        private static long greatestDivisor(long a, long b) {
            long larger = b;
            long smaller = a;
            for (int step = 0; step < MOST_STEPS_OF_A_DIVISOR && smaller != 0; step++) {
                long rest = larger % smaller;
                larger = smaller;
                smaller = rest;
            }
            return larger;
        }

        /** The middle between cut i and the next one tells of all that is between them. */
        private long middleOver(int i) {
            return overs[i] * unders[i + 1] + overs[i + 1] * unders[i];
        }

        private long middleUnder(int i) {
            return 2 * unders[i] * unders[i + 1];
        }

        private boolean isIn(Area area, long over, long under) {
            return area.contains(fromX * under + alongX * over, fromY * under + alongY * over, under);
        }

        int size() {
            return size;
        }

        /** The cut at which stretch i begins. */
        int beginOf(int i) {
            return i >= 0 && i < size ? begins[i] : 0;
        }

        int endOf(int i) {
            return i >= 0 && i < size ? ends[i] : 0;
        }

        boolean isPieceBegin(int cut) {
            return cut == 0;
        }

        boolean isPieceEnd(int cut) {
            return cut == cuts - 1;
        }

        long overOf(int cut) {
            return cut >= 0 && cut < cuts ? overs[cut] : 0;
        }

        long underOf(int cut) {
            return cut >= 0 && cut < cuts ? unders[cut] : 1;
        }

        /** So much of the whole as stretch i is of the piece, cut. */
        long shareOf(int i, long whole) {
            int begin = beginOf(i);
            int end = endOf(i);
            long under = underOf(begin) * underOf(end);
            long over = overOf(end) * underOf(begin) - overOf(begin) * underOf(end);
            return under > 0 ? over * whole / under : 0;
        }
    }

    /** What a run has found, in its order. */
    private static final class Crossings {
        private static final int MOST_CROSSINGS = 300;

        private final int[] pieces = new int[MOST_CROSSINGS];
        private final int[] areas = new int[MOST_CROSSINGS];
        private final boolean[] entering = new boolean[MOST_CROSSINGS];
        private final long[] overs = new long[MOST_CROSSINGS];
        private final long[] unders = new long[MOST_CROSSINGS];
        private int size = 0;

        void clear() {
            size = 0;
        }

        int size() {
            return size;
        }

        boolean has(int k) {
            return k >= 0 && k < size;
        }

        boolean add(int piece, int area, boolean enters, long over, long under) {
            if (size >= MOST_CROSSINGS) {
                return false;
            }
            pieces[size] = piece;
            areas[size] = area;
            entering[size] = enters;
            overs[size] = over;
            unders[size] = under;
            size++;
            return true;
        }

        int pieceOf(int k) {
            return has(k) ? pieces[k] : -1;
        }

        int areaOf(int k) {
            return has(k) ? areas[k] : -1;
        }

        boolean isEntering(int k) {
            return has(k) && entering[k];
        }

        long overOf(int k) {
            return has(k) ? overs[k] : -1;
        }

        long underOf(int k) {
            return has(k) ? unders[k] : -1;
        }
    }
}

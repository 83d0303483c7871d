/** The terms on coordinates, rings and what is simple. */
final class TermsRingTest {
    // Rings that are simple, whichever corner is the first one and whichever way round.
    private static final long[][] SIMPLE = {
        {0, 0, 1, 0, 0, 1},
        {-200, -200, 200, 200, 199, 200},
        {-200, 200, 200, -200, 200, -199},
        {0, 0, 10, 0, 10, 10, 0, 10},
        {0, 0, 5, 0, 10, 0, 10, 10, 0, 10},
        {0, 0, 2, 0, 10, 0, 10, 10, 0, 10},
        {0, 0, 10, 0, 10, 3, 10, 10, 0, 10},
        {0, 0, 10, 5, 12, 6, 0, 40},
        // A corner that is as near to a slanted side as can be.
        {0, 0, 3, 2, 5, 2, 2, 1, 5, -3},
        {0, 0, 2, 3, 2, 5, 1, 2, -3, 5},
        {0, 0, 200, 199, 200, 200, 100, 100, 0, 200},
        {0, 0, 10, 0, 10, 10, 5, 1, 0, 10},
        {0, 0, 10, 0, 10, 5, 5, 5, 5, 10, 0, 10},
        {0, 0, 9, 0, 9, 9, 1, 9, 1, 2, 2, 2, 2, 8, 8, 8, 8, 1, 0, 1},
        {0, 0, 0, 10, 2, 10, 2, 2, 4, 2, 4, 10, 6, 10, 6, 2, 8, 2, 8, 10, 10, 10, 10, 0},
    };
    // Rings that are not, whichever corner is the first one and whichever way round.
    private static final long[][] SIDES_HAVE_MORE_IN_COMMON = {
        {0, 0, 5, 0, 10, 0},
        {0, 0, 0, 3, 0, 200},
        {-200, -200, 0, 0, 200, 200},
        {0, 0, 9, 6, 6, 4, 0, 9},
        {0, 0, 10, 0, 15, 0, 10, 0, 10, 10},
        {0, 0, 10, 0, 6, 0, 6, 9},
        {0, 0, 10, 0, 10, 10, 10, 5, 0, 5},
        {0, 0, 10, 10, 10, 0, 0, 10},
        {0, 0, 2, 1, 1, 0, 1, 1},
        {0, 0, 1, 1, 1, 0, 0, 1},
        {0, 0, 10, 0, 10, 10, 5, 0, 0, 10},
        {0, 0, 10, 0, 10, 10, 5, -1, 0, 10},
        {0, 0, 20, 0, 20, 10, 10, 10, 10, 0, 5, 0, 5, 10, 0, 10},
        {0, 0, 10, 0, 10, 10, 4, 10, 4, -3, 3, -3, 3, 10, 0, 10},
        {-200, -200, 200, 200, 200, 199, -199, -199, -200, 0},
        {0, 0, 3, 9, 6, 0, 6, 9, 3, 9, 0, 9},
    };

    public static void main(String[] args) {
        Check check = new Check("terms");
        dueCoordinates(check);
        dueFewestCorners(check);
        dueMostCorners(check);
        dueLastSide(check);
        dueSimple(check);
        dueOnePlace(check);
        dueInCommon(check);
        dueBarelyApart(check);
        check.end();
    }

    private static void dueCoordinates(Check check) {
        check.sentence("COORDINATES are -200 .. 200");
        for (int value = -203; value <= 203; value++) {
            boolean is = value >= -200 && value <= 200;
            AreaCrossings x = new AreaCrossings(1);
            x.track();
            check.due("corner(0, " + value + ", 0)", x.corner(0, value, 0), is);
            check.due("corner(0, 0, " + value + ")", x.corner(0, 0, value), is);
            check.due("place at " + value + ", 0", x.place(0, 0, value, 0), is);
            check.due("place at 0, " + value, x.place(0, 1, 0, value), is);
        }
    }

    private static void dueFewestCorners(Check check) {
        check.sentence("A RING is a row of 3 .. CORNERS");
        for (int corners = 0; corners <= 3; corners++) {
            AreaCrossings x = new AreaCrossings(1);
            Check.bow(x, 0, corners, 0, 0);
            check.due("ring of " + corners, x.ring(0), corners >= 3);
            AreaCrossings y = Check.barred(-20, -20, 180, -20, 180, 180, -20, 180);
            y.hole(0);
            Check.bow(y, 0, corners, 0, 0);
            check.due("hole of " + corners, y.ring(0), corners >= 3);
        }
    }

    private static void dueMostCorners(Check check) {
        check.sentence("A RING is a row of .. 12 CORNERS");
        for (int corners = 4; corners <= 12; corners++) {
            AreaCrossings x = new AreaCrossings(1);
            check.due(corners + " corners", Check.bow(x, 0, corners, 0, 0), true);
            check.due("ring of " + corners, x.ring(0), true);
            AreaCrossings y = Check.barred(-20, -20, 180, -20, 180, 180, -20, 180);
            y.hole(0);
            check.due(corners + " corners of a hole", Check.bow(y, 0, corners, 0, 0), true);
            check.due("hole of " + corners, y.ring(0), true);
        }
        AreaCrossings x = new AreaCrossings(1);
        check.due("13 corners", Check.bow(x, 0, 13, 0, 0), false);
        check.due("ring of the twelve that were taken", x.ring(0), true);
    }

    /** The last side is that from (0, 10) to (0, 0), and nothing but it is where these look. */
    private static void dueLastSide(Check check) {
        check.sentence("its SIDES go from each to the next one, and from the last to the first");
        AreaCrossings x = Check.barred(0, 0, 10, 0, 10, 10, 0, 10);
        check.due("a place on it", x.cell(0, 5, 0), 1);
        check.due("a hole that meets it", Check.closedHole(x, 0, 5, 4, 5, 6, -5, 5), false);
        check.due("a hole that touches it", Check.closedHole(x, 0, 5, 4, 5, 6, 0, 5), false);
        check.dueRun(x, "0:0+1/2", 0, -5, 5, 60, 5, 5);
        check.due("its places near", x.buffer(0, 5), 2);
        check.due("inside", x.inside(0, 0, 0), 30_000);
        AreaCrossings y = new AreaCrossings(2);
        Check.closed(y, 0, 0, 0, 10, 0, 10, 10, 0, 10);
        Check.closed(y, 1, -5, 3, 5, 5, -5, 7);
        check.due("another ring meets it", y.overlap(0, 1), 1);
    }

    /** The same ring, begun with corner by, and the other way round if that is asked for. */
    private static long[] turned(long[] ring, int by, boolean back) {
        int corners = ring.length / 2;
        long[] turned = new long[ring.length];
        for (int k = 0; k < corners; k++) {
            int from = back ? (by - k + corners) % corners : (by + k) % corners;
            turned[2 * k] = ring[2 * from];
            turned[2 * k + 1] = ring[2 * from + 1];
        }
        return turned;
    }

    private static void dueTurned(Check check, String what, long[] ring, boolean want) {
        for (int by = 0; by < ring.length / 2; by++) {
            for (int back = 0; back < 2; back++) {
                AreaCrossings x = new AreaCrossings(1);
                String how = what + ", begun with corner " + by + (back == 1 ? ", the other way round" : "");
                check.due(how, Check.closed(x, 0, turned(ring, by, back == 1)), want);
                check.due(how + ": a hole may follow", x.hole(0), want);
            }
        }
    }

    private static void dueSimple(Check check) {
        check.sentence("it is SIMPLE if ..: these are");
        for (int i = 0; i < SIMPLE.length; i++) {
            dueTurned(check, "ring " + i, SIMPLE[i], true);
        }
    }

    private static void dueOnePlace(Check check) {
        check.sentence("no two CORNERS are one place");
        for (int corners = 3; corners <= 12; corners++) {
            for (int first = 0; first < corners; first++) {
                for (int second = first + 1; second < corners; second++) {
                    dueTwice(check, corners, first, second);
                }
            }
        }
        // With three of them there is neither a turn nor a pair of sides that are no neighbours.
        for (int corners = 3; corners <= 12; corners++) {
            AreaCrossings x = new AreaCrossings(1);
            for (int k = 0; k < corners; k++) {
                x.corner(0, 7, -7);
            }
            check.due("all " + corners + " corners are one place", x.ring(0), false);
        }
        dueTurned(check, "the first corner once more at the end", new long[] {0, 0, 9, 0, 9, 9, 0, 0}, false);
        dueTurned(check, "two loops at one corner", new long[] {0, 0, 5, 5, 9, 0, 9, 9, 5, 5, 0, 9}, false);
    }

    private static void dueTwice(Check check, int corners, int first, int second) {
        AreaCrossings x = new AreaCrossings(1);
        for (int k = 0; k < corners; k++) {
            int at = k == second ? first : k;
            x.corner(0, at, at * at);
        }
        check.due("corner " + second + " of " + corners + " is corner " + first, x.ring(0), false);
    }

    private static void dueInCommon(Check check) {
        check.sentence("no two SIDES have a place in common but neighbours their CORNER");
        for (int i = 0; i < SIDES_HAVE_MORE_IN_COMMON.length; i++) {
            dueTurned(check, "ring " + i, SIDES_HAVE_MORE_IN_COMMON[i], false);
        }
    }

    /** A corner on a side is refused, one a unit beside it is not; the side is as long as can be. */
    private static void dueBarelyApart(Check check) {
        check.sentence("no two SIDES have a place in common: the corner is on the side, or beside it");
        dueTurned(check, "beside, above", new long[] {-200, 0, 200, 0, 200, 9, 3, 1, -200, 9}, true);
        dueTurned(check, "on it", new long[] {-200, 0, 200, 0, 200, 9, 3, 0, -200, 9}, false);
        dueTurned(check, "beyond it", new long[] {-200, 0, 200, 0, 200, 9, 3, -1, -200, 9}, false);
        dueTurned(check, "beside a slanted one", new long[] {-200, -200, 200, 199, 200, 200, 1, 1, -200, 0}, true);
        dueTurned(check, "on a slanted one", new long[] {-200, -200, 200, 200, 199, 200, 1, 1, -200, 0}, false);
    }
}

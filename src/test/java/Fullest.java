import java.util.TreeSet;

/**
 * An area with three holes, each of 12 corners, whose 48 sides all cross the line y = 0 at places of
 * their own: as many as there can be. Each ring is a band that goes up and down six times.
 */
final class Fullest {
    private static final long[][] RINGS = {
        band(40, -40, 180, -120), band(30, 20, 156, -14), band(5, -5, 156, -24), band(-20, -30, 156, -34)};

    private Fullest() { }

    /** Its upper edge is so far above the middle, its lower one so far, and it ends in a tip on either side. */
    private static long[] band(long upper, long lower, long tipX, long tipY) {
        long[] corners = new long[24];
        corners[0] = -tipX;
        corners[1] = tipY;
        corners[12] = tipX;
        corners[13] = tipY;
        for (int i = 1; i <= 5; i++) {
            long turn = i % 2 == 1 ? 120 : -120;
            corners[2 * i] = 60 * i - 180;
            corners[2 * i + 1] = turn + upper;
            corners[24 - 2 * i] = 60 * i - 180;
            corners[25 - 2 * i] = turn + lower;
        }
        return corners;
    }

    /** Makes it the area 0, which bars gear 0 on each day, and a track of one piece through all of it. */
    static AreaCrossings made(Check check, long seconds) {
        AreaCrossings x = Check.barred(RINGS[0]);
        for (int i = 1; i < RINGS.length; i++) {
            check.due("band " + i, Check.closedHole(x, 0, RINGS[i]), true);
        }
        check.due("track", Check.path(x, 0, -200, 0, seconds, 200, 0), 0);
        return x;
    }

    /** The shares of the piece at which it crosses the sides, in their order. */
    static TreeSet<Fraction> shares() {
        TreeSet<Fraction> shares = new TreeSet<>();
        for (long[] ring : RINGS) {
            for (int i = 0; i < ring.length; i += 2) {
                int next = (i + 2) % ring.length;
                Fraction along = Fraction.of(-ring[i + 1]).by(Fraction.of(ring[next + 1] - ring[i + 1]));
                Fraction atX = Fraction.of(ring[i]).plus(Fraction.of(ring[next] - ring[i]).times(along));
                shares.add(atX.plus(Fraction.of(200)).by(Fraction.of(400)));
            }
        }
        return shares;
    }
}

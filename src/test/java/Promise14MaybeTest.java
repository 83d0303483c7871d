/** Promise 14: maybe. */
final class Promise14MaybeTest {
    public static void main(String[] args) {
        Check check = new Check("promise 14");
        dueCounted(check);
        dueHours(check);
        dueEachSide(check);
        dueTouch(check);
        dueLeastRectangleOfBothPlaces(check);
        dueLeastRectangleOfTheArea(check);
        dueAnyArea(check);
        dueLongest(check);
        dueNoSuchTrack(check);
        dueNoSuchGap(check);
        check.end();
    }

    /** Of a gap so many seconds long, and the square 0 .. 10. */
    private static boolean gapMeets(long seconds, long fromX, long fromY, long toX, long toY) {
        AreaCrossings x = new AreaCrossings(2);
        Check.rectangle(x, 1, 0, 0, 10, 10);
        int t = Check.path(x, 7, fromX, fromY, 7 + seconds, toX, toY);
        return x.maybe(t, 0);
    }

    private static void dueCounted(Check check) {
        check.sentence("Of the GAPS of a TRACK, counted from 0 on, one");
        AreaCrossings x = new AreaCrossings(1);
        Check.rectangle(x, 0, 0, 0, 10, 10);
        // Pieces 1, 2 and 4 are gaps; the last two end far away.
        int t = Check.path(x, 0, 5, 5, 3600, 6, 6, 7201, 7, 7, 10_802, 8, 8, 14_402, 90, 90, 18_003, 91, 91, 21_604, 9, 9);
        check.due("gap 0, piece 1", x.maybe(t, 0), true);
        check.due("gap 1, piece 2", x.maybe(t, 1), true);
        check.due("gap 2, piece 4", x.maybe(t, 2), false);
        check.due("gap 3, piece 5", x.maybe(t, 3), true);
        check.due("gap 4, there is none", x.maybe(t, 4), false);
    }

    private static void dueHours(Check check) {
        check.sentence("as many units wider as it has hours (begun ones count)");
        check.due("one hour is no gap", gapMeets(3600, 5, 5, 5, 5), false);
        for (int hours = 2; hours <= 40; hours++) {
            long beyond = 10 + hours;
            long[] lengths = {(hours - 1) * 3600L + 1, (hours - 1) * 3600L + 1800, hours * 3600L - 1, hours * 3600L};
            for (long seconds : lengths) {
                check.due(seconds + " seconds, " + hours, gapMeets(seconds, beyond, 5, beyond + 9, 5), true);
                check.due(seconds + " seconds, " + hours + " and one more",
                    gapMeets(seconds, beyond + 1, 5, beyond + 9, 5), false);
            }
        }
    }

    private static void dueEachSide(Check check) {
        check.sentence("on each side as many units wider");
        check.due("left", gapMeets(3601, -9, 5, -2, 5), true);
        check.due("too far left", gapMeets(3601, -9, 5, -3, 5), false);
        check.due("right, the other way", gapMeets(3601, 20, 5, 12, 5), true);
        check.due("too far right", gapMeets(3601, 20, 5, 13, 5), false);
        check.due("below", gapMeets(3601, 5, -2, 5, -9), true);
        check.due("too far below", gapMeets(3601, 5, -3, 5, -9), false);
        check.due("above", gapMeets(3601, 5, 12, 5, 19), true);
        check.due("too far above", gapMeets(3601, 5, 13, 5, 19), false);
    }

    private static void dueTouch(Check check) {
        check.sentence("meets (it is enough that they touch)");
        check.due("corner to corner, right and above", gapMeets(3601, 12, 12, 19, 19), true);
        check.due("beside that corner", gapMeets(3601, 12, 13, 19, 19), false);
        check.due("right of that corner", gapMeets(3601, 13, 12, 19, 19), false);
        check.due("corner to corner, left and below", gapMeets(3601, -2, -2, -9, -9), true);
        check.due("below that corner", gapMeets(3601, -2, -3, -9, -9), false);
        check.due("corner to corner, left and above", gapMeets(3601, -2, 12, -9, 19), true);
        check.due("left of that corner", gapMeets(3601, -3, 12, -9, 19), false);
        check.due("around it", gapMeets(3601, -50, -50, 50, 50), true);
        check.due("across it", gapMeets(3601, -50, 5, 50, 5), true);
        check.due("up and down across it", gapMeets(3601, 5, -50, 5, 50), true);
        check.due("within it", gapMeets(3601, 5, 5, 5, 5), true);
    }

    private static void dueLeastRectangleOfBothPlaces(Check check) {
        check.sentence("the least rectangle of both its PLACES");
        check.due("none of the places is near", gapMeets(3601, -50, 9, 9, 90), true);
        check.due("the other way", gapMeets(3601, 9, 90, -50, 9), true);
        check.due("rising", gapMeets(3601, -50, -90, 9, 0), true);
        check.due("its corner touches", gapMeets(3601, 12, 90, 90, 12), true);
        check.due("its corner is beside", gapMeets(3601, 12, 90, 90, 13), false);
    }

    /** Rectangles are compared, not what is in them. */
    private static void dueLeastRectangleOfTheArea(Check check) {
        check.sentence("the least rectangle of an AREA");
        AreaCrossings x = new AreaCrossings(1);
        Check.closed(x, 0, 0, 0, 100, 0, 0, 100);
        Check.rectangleHole(x, 0, 5, 5, 30, 30);
        int t = Check.path(x, 0, 90, 90, 3601, 95, 95, 3700, 20, 20, 7400, 20, 20, 7401, 102, 102, 12_000, 150, 150,
            12_001, 103, 50, 16_000, 150, 150);
        check.due("in the rectangle, out of the area", x.maybe(t, 0), true);
        check.due("in a hole", x.maybe(t, 1), true);
        check.due("at the rectangle's corner", x.maybe(t, 2), true);
        check.due("beside it", x.maybe(t, 3), false);
        AreaCrossings y = new AreaCrossings(1);
        Check.closed(y, 0, 50, 60, 0, 10, 10, 0);
        check.due("at its first corner", y.maybe(Check.path(y, 0, 52, 62, 3601, 52, 62), 0), true);
        check.due("at its last corner", y.maybe(Check.path(y, 0, 12, -2, 3601, 12, -2), 0), true);
        check.due("below it", y.maybe(Check.path(y, 0, 12, -3, 3601, 12, -3), 0), false);
        check.due("left of it", y.maybe(Check.path(y, 0, -3, 30, 3601, -3, 30), 0), false);
    }

    private static void dueAnyArea(Check check) {
        check.sentence("an AREA that is there");
        AreaCrossings x = new AreaCrossings(12);
        int t = Check.path(x, 0, 5, 5, 3601, 5, 5);
        check.due("no area there", x.maybe(t, 0), false);
        Check.corners(x, 3, 0, 0, 10, 0, 10, 10, 0, 10);
        check.due("one whose ring is not closed", x.maybe(t, 0), false);
        Check.rectangle(x, 0, 50, 50, 60, 60);
        check.due("one far away", x.maybe(t, 0), false);
        check.due("the last one", Check.rectangle(x, 11, 0, 0, 3, 3), true);
        check.due("met", x.maybe(t, 0), true);
        AreaCrossings y = new AreaCrossings(2);
        int u = Check.path(y, 0, 5, 5, 3601, 5, 5);
        Check.rectangle(y, 0, 0, 50, 10, 60);
        Check.rectangle(y, 1, 50, 0, 60, 10);
        check.due("one in x, another one in y", y.maybe(u, 0), false);
    }

    /** 40,000,000 seconds are 11,112 hours begun. */
    private static void dueLongest(Check check) {
        check.sentence("as many units wider as it has hours: the longest GAP");
        AreaCrossings x = new AreaCrossings(1);
        Check.rectangle(x, 0, 199, 199, 200, 200);
        int t = Check.path(x, 0, -200, -200, 40_000_000, -200, -200);
        check.due("longest", x.maybe(t, 0), true);
        int far = Check.path(x, 0, -200, -200, 399 * 3600, -200, -200);
        check.due("399 hours", x.maybe(far, 0), true);
        int shorter = Check.path(x, 0, -200, -200, 398 * 3600, -200, -200);
        check.due("398 hours", x.maybe(shorter, 0), false);
    }

    private static void dueNoSuchTrack(Check check) {
        check.sentence("false if there is no such TRACK");
        AreaCrossings x = new AreaCrossings(1);
        Check.rectangle(x, 0, -9, -9, 9, 9);
        check.due("no track", x.maybe(0, 0), false);
        for (int track = 0; track < 6; track++) {
            Check.path(x, 0, 0, 0, 3601, 1, 1);
            check.due("the last", x.maybe(track, 0), true);
            check.due("behind the last", x.maybe(track + 1, 0), false);
            check.due("before the first", x.maybe(-1, 0), false);
        }
        for (int track : Check.FAR_INTS) {
            check.due("track " + track, x.maybe(track, 0), false);
        }
    }

    private static void dueNoSuchGap(Check check) {
        check.sentence("false if there is no such GAP");
        AreaCrossings x = new AreaCrossings(1);
        Check.rectangle(x, 0, -9, -9, 9, 9);
        int t = x.track();
        check.due("no places", x.maybe(t, 0), false);
        x.place(t, 0, 0, 0);
        check.due("one place", x.maybe(t, 0), false);
        x.place(t, 3600, 0, 0);
        check.due("a piece that is no gap", x.maybe(t, 0), false);
        for (int gaps = 1; gaps <= 28; gaps++) {
            check.due("gap " + (gaps - 1) + " before", x.maybe(t, gaps - 1), false);
            x.place(t, 3600 + 3601 * gaps, 0, 0);
            check.due("gap " + (gaps - 1), x.maybe(t, gaps - 1), true);
            check.due("gap 0", x.maybe(t, 0), true);
            check.due("gap -1", x.maybe(t, -1), false);
        }
        for (int gap : Check.FAR_INTS) {
            check.due("gap " + gap, x.maybe(t, gap), false);
        }
    }
}

/** Promise 14: maybe. */
final class Promise14MaybeTest {
    public static void main(String[] args) {
        Check check = new Check();
        dueWrong(check);
        dueHours(check);
        dueEachSide(check);
        dueRectangles(check);
        dueLongest(check);
        check.end();
    }

    private static void dueWrong(Check check) {
        AreaCrossings x = new AreaCrossings(1);
        check.due("no track", x.maybe(0, 0), false);
        int t = Check.path(x, 0, 0, 0, 3601, 1, 1, 7201, 2, 2, 20_000, 3, 3);
        check.due("no area", x.maybe(t, 0), false);
        Check.rectangle(x, 0, -9, -9, 9, 9);
        check.due("gap 0", x.maybe(t, 0), true);
        check.due("gap 1", x.maybe(t, 1), true);
        int[] none = {2, 3, -1, Integer.MIN_VALUE, Integer.MAX_VALUE};
        for (int number : none) {
            check.due("gap " + number, x.maybe(t, number), false);
            check.due("track " + (number + 1), x.maybe(number == -1 ? -1 : number + 1, 0), false);
        }
        check.due("a track without places", x.maybe(x.track(), 0), false);
    }

    private static boolean gapMeets(long seconds, long fromX, long fromY, long toX, long toY) {
        AreaCrossings x = new AreaCrossings(2);
        Check.rectangle(x, 1, 0, 0, 10, 10);
        int t = Check.path(x, 7, fromX, fromY, 7 + seconds, toX, toY);
        return x.maybe(t, 0);
    }

    private static void dueHours(Check check) {
        check.due("one hour is no gap", gapMeets(3600, 5, 5, 5, 5), false);
        check.due("begun hours: 2", gapMeets(3601, 12, 5, 20, 5), true);
        check.due("begun hours: 2, not 3", gapMeets(3601, 13, 5, 20, 5), false);
        check.due("two hours: 2", gapMeets(7200, 12, 5, 20, 5), true);
        check.due("two hours: not 3", gapMeets(7200, 13, 5, 20, 5), false);
        check.due("begun hours: 3", gapMeets(7201, 13, 5, 20, 5), true);
        check.due("begun hours: 3, not 4", gapMeets(7201, 14, 5, 20, 5), false);
    }

    private static void dueEachSide(Check check) {
        check.due("left", gapMeets(3601, -9, 5, -2, 5), true);
        check.due("too far left", gapMeets(3601, -9, 5, -3, 5), false);
        check.due("right, the other way", gapMeets(3601, 20, 5, 12, 5), true);
        check.due("below", gapMeets(3601, 5, -2, 5, -9), true);
        check.due("too far below", gapMeets(3601, 5, -3, 5, -9), false);
        check.due("above", gapMeets(3601, 5, 12, 5, 19), true);
        check.due("too far above", gapMeets(3601, 5, 13, 5, 19), false);
        check.due("at a corner", gapMeets(3601, 12, 12, 19, 19), true);
        check.due("beside a corner", gapMeets(3601, 12, 13, 19, 19), false);
        check.due("around it", gapMeets(3601, -50, -50, 50, 50), true);
        check.due("across it", gapMeets(3601, -50, 5, 50, 5), true);
        check.due("within it", gapMeets(3601, 4, 4, 5, 5), true);
    }

    /** Rectangles are compared, not what is in them. */
    private static void dueRectangles(Check check) {
        AreaCrossings x = new AreaCrossings(1);
        Check.closed(x, 0, 0, 0, 100, 0, 0, 100);
        Check.rectangleHole(x, 0, 5, 5, 30, 30);
        int t = Check.path(x, 0, 90, 90, 3601, 95, 95, 3700, 20, 20, 7400, 20, 20);
        check.due("in the rectangle, out of the area", x.maybe(t, 0), true);
        check.due("in a hole", x.maybe(t, 1), true);
        AreaCrossings y = new AreaCrossings(1);
        Check.closed(y, 0, 50, 60, 0, 10, 10, 0);
        int beyond = Check.path(y, 0, 52, 62, 3601, 52, 62);
        check.due("at its first corner", y.maybe(beyond, 0), true);
        int diagonal = Check.path(x, 0, -50, 60, 3601, 60, 200);
        check.due("the least rectangle of both places", x.maybe(diagonal, 0), true);
    }

    /** 40,000,000 seconds are 11,112 hours begun. */
    private static void dueLongest(Check check) {
        AreaCrossings x = new AreaCrossings(1);
        Check.rectangle(x, 0, 199, 199, 200, 200);
        int t = Check.path(x, 0, -200, -200, 40_000_000, -200, -200);
        check.due("longest", x.maybe(t, 0), true);
    }
}

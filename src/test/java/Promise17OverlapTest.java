/** Promise 17: overlap. */
final class Promise17OverlapTest {
    private static final long[] SQUARE = {0, 0, 10, 0, 10, 10, 0, 10};

    public static void main(String[] args) {
        Check check = new Check();
        dueBoth(check, "apart", 0, 0, 20, 0, 30, 0, 30, 10, 20, 10);
        dueBoth(check, "rectangles in common alone", 0, 0, -5, 9, 9, 20, -5, 20);
        dueBoth(check, "a side in common", 1, 1, 10, 0, 20, 0, 20, 10, 10, 10);
        dueBoth(check, "a corner in common", 1, 1, 10, 10, 20, 10, 20, 20);
        dueBoth(check, "a corner on a side", 1, 1, 10, 5, 20, 0, 20, 10);
        dueBoth(check, "a side through a corner", 1, 1, 5, 15, 15, 5, 15, 15);
        dueBoth(check, "across", 1, 1, -5, 4, 15, 4, 15, 6, -5, 6);
        dueBoth(check, "half in", 1, 1, 5, 5, 15, 5, 15, 15);
        dueBoth(check, "the same", 1, 1, SQUARE);
        dueBoth(check, "within, at a side", 1, 1, 0, 3, 4, 3, 4, 5);
        dueBoth(check, "within", 3, 2, 3, 3, 6, 3, 6, 6);
        dueBoth(check, "around", 2, 3, -3, -3, 16, -3, 16, 16, -3, 16);
        dueBoth(check, "around, in a bow", 0, 0, -2, -2, 12, -2, 12, 12, 11, 12, 11, -1, -2, -1);
        dueByOuterRings(check);
        dueNone(check);
        check.end();
    }

    private static void dueBoth(Check check, String what, int want, int otherWay, long... corners) {
        AreaCrossings x = new AreaCrossings(2);
        check.due("square", Check.closed(x, 0, SQUARE), true);
        check.due("ring: " + what, Check.closed(x, 1, corners), true);
        check.due(what, x.overlap(0, 1), want);
        check.due(what + ", the other way round", x.overlap(1, 0), otherWay);
    }

    private static void dueByOuterRings(Check check) {
        AreaCrossings x = new AreaCrossings(2);
        Check.rectangle(x, 0, 0, 0, 40, 40);
        Check.rectangleHole(x, 0, 10, 10, 30, 30);
        Check.rectangle(x, 1, 15, 15, 25, 25);
        check.due("in a hole", x.overlap(1, 0), 2);
        check.due("around in a hole", x.overlap(0, 1), 3);
        AreaCrossings y = new AreaCrossings(2);
        Check.rectangle(y, 0, 0, 0, 40, 40);
        Check.rectangleHole(y, 0, 10, 10, 30, 30);
        Check.rectangle(y, 1, 10, 10, 30, 30);
        check.due("a hole's sides do not matter", y.overlap(0, 1), 3);
    }

    private static void dueNone(Check check) {
        AreaCrossings x = new AreaCrossings(3);
        Check.closed(x, 0, SQUARE);
        Check.closed(x, 1, SQUARE);
        check.due("both the same", x.overlap(0, 0), -1);
        check.due("both the same, not there", x.overlap(2, 2), -1);
        int[] none = {2, 3, -1, Integer.MIN_VALUE, Integer.MAX_VALUE};
        for (int area : none) {
            check.due("overlap(0, " + area + ")", x.overlap(0, area), -1);
            check.due("overlap(" + area + ", 0)", x.overlap(area, 0), -1);
        }
        check.due("both there", x.overlap(0, 1), 1);
    }
}

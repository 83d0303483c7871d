/** Promise 17: overlap. */
final class Promise17OverlapTest {
    private static final long[] SQUARE = {0, 0, 10, 0, 10, 10, 0, 10};

    public static void main(String[] args) {
        Check check = new Check("promise 17");
        dueNothing(check);
        dueBarelyApart(check);
        dueSidesMeet(check);
        dueWithin(check);
        dueByOuterRings(check);
        dueNotThere(check);
        dueBothTheSame(check);
        dueNoSuchArea(check);
        check.end();
    }

    private static void dueBoth(Check check, String what, int want, int otherWay, long... corners) {
        AreaCrossings x = new AreaCrossings(2);
        check.due("square", Check.closed(x, 0, SQUARE), true);
        check.due("ring: " + what, Check.closed(x, 1, corners), true);
        check.due(what, x.overlap(0, 1), want);
        check.due(what + ", the other way round", x.overlap(1, 0), otherWay);
    }

    private static void dueNothing(Check check) {
        check.sentence("0 nothing in common");
        dueBoth(check, "apart", 0, 0, 20, 0, 30, 0, 30, 10, 20, 10);
        dueBoth(check, "a unit right", 0, 0, 11, 0, 20, 0, 20, 10, 11, 10);
        dueBoth(check, "a unit left", 0, 0, -1, 0, -1, 10, -9, 5);
        dueBoth(check, "a unit above", 0, 0, 0, 11, 10, 11, 5, 20);
        dueBoth(check, "a unit below", 0, 0, 0, -1, 10, -1, 5, -20);
        dueBoth(check, "rectangles in common alone", 0, 0, -5, 9, 9, 20, -5, 20);
        dueBoth(check, "around, in a bow", 0, 0, -2, -2, 12, -2, 12, 12, 11, 12, 11, -1, -2, -1);
        dueBoth(check, "a unit beside a corner, slanted", 0, 0, 5, 16, 16, 5, 16, 16);
    }

    /** A corner that is as near to a slanted side as can be, first on the one side of it and then on the other. */
    private static void dueBarelyApart(Check check) {
        check.sentence("0 nothing in common: but a CORNER beside a slanted SIDE");
        AreaCrossings x = new AreaCrossings(4);
        Check.closed(x, 0, 0, 0, 3, 2, 0, 2);
        Check.closed(x, 1, 2, 1, 5, 0, 5, 1);
        check.due("below it", x.overlap(0, 1), 0);
        check.due("below it, the other way round", x.overlap(1, 0), 0);
        Check.closed(x, 2, 0, 0, 3, 2, 3, 0);
        Check.closed(x, 3, 1, 1, -2, 2, -2, 1);
        check.due("above it", x.overlap(2, 3), 0);
        check.due("above it, the other way round", x.overlap(3, 2), 0);
    }

    private static void dueSidesMeet(Check check) {
        check.sentence("1 SIDES meet");
        dueBoth(check, "a side in common", 1, 1, 10, 0, 20, 0, 20, 10, 10, 10);
        dueBoth(check, "a part of a side in common", 1, 1, 10, 2, 20, 2, 20, 4, 10, 4);
        dueBoth(check, "a corner in common", 1, 1, 10, 10, 20, 10, 20, 20);
        dueBoth(check, "a corner on a side", 1, 1, 10, 5, 20, 0, 20, 10);
        dueBoth(check, "a side through a corner", 1, 1, 5, 15, 15, 5, 15, 15);
        dueBoth(check, "across", 1, 1, -5, 4, 15, 4, 15, 6, -5, 6);
        dueBoth(check, "half in", 1, 1, 5, 5, 15, 5, 15, 15);
        dueBoth(check, "the last side alone", 1, 1, 15, 5, 15, 20, -5, 20, -5, 5);
        dueBoth(check, "the same", 1, 1, SQUARE);
        dueBoth(check, "the same, the other way", 1, 1, 0, 10, 10, 10, 10, 0, 0, 0);
        dueBoth(check, "within, at a side", 1, 1, 0, 3, 4, 3, 4, 5);
        dueBoth(check, "within, at a corner", 1, 1, 10, 10, 8, 7, 7, 8);
        dueBoth(check, "around, at a side", 1, 1, -3, 0, 16, 0, 16, 16, -3, 16);
    }

    private static void dueWithin(Check check) {
        check.sentence("2 the first lies within the other one, 3 the other way round");
        dueBoth(check, "within", 3, 2, 3, 3, 6, 3, 6, 6);
        dueBoth(check, "just within", 3, 2, 1, 1, 9, 1, 9, 9, 1, 9);
        dueBoth(check, "around", 2, 3, -3, -3, 16, -3, 16, 16, -3, 16);
        dueBoth(check, "just around", 2, 3, -1, -1, -1, 11, 11, 11, 11, -1);
        dueBoth(check, "as far around as can be", 2, 3, -200, -200, 200, -200, 200, 200, -200, 200);
    }

    private static void dueByOuterRings(Check check) {
        check.sentence("by their outer RINGS");
        AreaCrossings x = new AreaCrossings(2);
        Check.rectangle(x, 0, 0, 0, 40, 40);
        Check.rectangleHole(x, 0, 10, 10, 30, 30);
        Check.rectangle(x, 1, 15, 15, 25, 25);
        check.due("in a hole", x.overlap(1, 0), 2);
        check.due("around in a hole", x.overlap(0, 1), 3);
        AreaCrossings y = new AreaCrossings(2);
        Check.rectangle(y, 0, 0, 0, 40, 40);
        Check.rectangleHole(y, 0, 10, 10, 30, 30);
        Check.rectangle(y, 1, 10, 10, 30, 30);
        check.due("a hole's sides do not matter", y.overlap(0, 1), 3);
        check.due("nor the other way round", y.overlap(1, 0), 2);
    }

    private static void dueNotThere(Check check) {
        check.sentence("-1 one is not there");
        AreaCrossings x = new AreaCrossings(3);
        check.due("none is there", x.overlap(0, 1), -1);
        Check.closed(x, 0, SQUARE);
        Check.corners(x, 1, SQUARE);
        check.due("the second one is not", x.overlap(0, 1), -1);
        check.due("the first one is not", x.overlap(1, 0), -1);
        check.due("both are not", x.overlap(1, 2), -1);
        x.ring(1);
        check.due("both are there", x.overlap(0, 1), 1);
    }

    private static void dueBothTheSame(Check check) {
        check.sentence("-1 both are the same");
        AreaCrossings x = new AreaCrossings(2);
        Check.closed(x, 0, SQUARE);
        check.due("one that is there", x.overlap(0, 0), -1);
        check.due("one that is not", x.overlap(1, 1), -1);
        check.due("one that is none", x.overlap(2, 2), -1);
        check.due("one below", x.overlap(-1, -1), -1);
    }

    private static void dueNoSuchArea(Check check) {
        check.sentence("-1 one is not there: there is no such one");
        AreaCrossings x = new AreaCrossings(2);
        Check.closed(x, 0, SQUARE);
        Check.closed(x, 1, SQUARE);
        int[] near = {2, 3, 12, -1, -2};
        for (int area : near) {
            dueNone(check, x, area);
        }
        for (int area : Check.FAR_INTS) {
            dueNone(check, x, area);
        }
    }

    private static void dueNone(Check check, AreaCrossings x, int area) {
        check.due("overlap(0, " + area + ")", x.overlap(0, area), -1);
        check.due("overlap(" + area + ", 1)", x.overlap(area, 1), -1);
    }
}

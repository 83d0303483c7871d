/** Promise 3: ring. */
final class Promise03RingTest {
    // Rows of corners, none of which is a simple ring.
    private static final long[][] NOT_SIMPLE = {
        {0, 0, 10, 0, 5, 0},
        {0, 0, 5, 0, 10, 0},
        {0, 0, 0, 0, 5, 5},
        {5, 5, 5, 5, 5, 5},
        {0, 0, 5, 5, 0, 0, 5, 0},
        {0, 0, 10, 10, 10, 0, 0, 10},
        {0, 0, 10, 0, 10, 10, 5, 0, 0, 10},
        {0, 0, 10, 0, 10, 10, 5, -1, 0, 10},
        {0, 0, 10, 0, 15, 0, 10, 0, 10, 10},
        {0, 0, 10, 0, 20, 10, 20, 0, 5, 0, 5, 20},
        {0, 0, 10, 0, 10, 10, 12, 12, 10, 10, 0, 10},
        {5, 0, 10, 0, 10, 10, 0, 10, 0, 0, 7, 0},
        {0, 0, 9, 6, 6, 4, 0, 9},
        {0, 0, 9, 6, 6, 4, -3, 40},
        {-200, -200, 200, 200, 199, 200, -199, -200, 200, 199},
    };
    // Holes that are refused in a square of 0 .. 20 with a hole of 5 .. 10.
    private static final long[][] MEETS_OUTER = {
        {0, 0, 1, 0, 1, 1},
        {0, 3, 1, 3, 1, 4},
        {1, 3, 1, 4, 0, 4},
        {15, 15, 20, 15, 18, 18},
        {15, 15, 25, 15, 25, 18},
        {15, 15, 21, 16, 15, 17},
        {1, 12, 4, 12, 4, 20, 3, 20, 2, 13},
    };
    private static final long[][] MEETS_A_HOLE = {
        {10, 10, 12, 10, 12, 12},
        {9, 9, 12, 9, 12, 12},
        {10, 6, 12, 6, 12, 8},
        {12, 6, 12, 8, 10, 7},
        {11, 1, 11, 19, 9, 19},
        {4, 11, 11, 4, 12, 12, 11, 12},
        {4, 10, 4, 12, 6, 10},
        {5, 5, 10, 5, 10, 10, 5, 10},
    };
    private static final long[][] NOT_IN_THE_AREA = {
        {-5, -5, 25, -5, 25, 25, -5, 25},
        {30, 30, 35, 30, 35, 35},
        {-1, 3, -2, 3, -1, 4},
        {-3, 1, 1, -3, -3, -3},
        {1, -3, -3, 1, -3, -3},
        {6, 6, 9, 6, 9, 9},
        {9, 9, 9, 8, 8, 9},
    };

    public static void main(String[] args) {
        Check check = new Check("promise 3");
        dueClosed(check);
        dueTooFew(check);
        dueNotSimple(check);
        dueStillBeingMade(check);
        dueHoles(check);
        dueHoleTooSmall(check);
        dueHoleNotSimple(check);
        dueHoleMeetsOuter(check);
        dueHoleMeetsHole(check);
        dueHoleNotInTheArea(check);
        dueHoleJustWithin(check);
        dueRefusedHoleIsNone(check);
        dueNoneIsBeingMade(check);
        dueNoSuchArea(check);
        dueHoleAroundAHole(check);
        check.end();
    }

    private static void dueClosed(Check check) {
        check.sentence("The RING that is being made is closed");
        AreaCrossings x = new AreaCrossings(2);
        Check.corners(x, 0, 0, 0, 10, 0, 10, 10, 0, 10);
        x.bars(0, 0, 0, 0);
        check.due("not there before", x.cell(5, 5, 0), 0);
        check.due("ring(0)", x.ring(0), true);
        check.due("there", x.cell(5, 5, 0), 1);
        check.due("no corner more", x.corner(0, 5, 15), false);
        check.due("hole of the other one", x.hole(1), false);
    }

    private static void dueTooFew(Check check) {
        check.sentence("false, and it has no CORNERS any more, if it has fewer than three");
        AreaCrossings x = new AreaCrossings(1);
        check.due("ring without corners", x.ring(0), false);
        check.due("one corner", Check.closed(x, 0, 0, 0), false);
        check.due("two corners", Check.closed(x, 0, 0, 0, 5, 5), false);
        // Those corners are gone: with them these three would not be simple.
        check.due("three corners", Check.closed(x, 0, 0, 0, 5, 5, 5, 0), true);
        AreaCrossings y = new AreaCrossings(1);
        Check.closed(y, 0, 0, 0, 5, 5);
        check.due("an area whose ring was refused has no corners", y.report(100, 100, 0, 1), 0);
    }

    private static void dueNotSimple(Check check) {
        check.sentence("false, and it has no CORNERS any more, if it is not SIMPLE");
        for (int i = 0; i < NOT_SIMPLE.length; i++) {
            AreaCrossings x = new AreaCrossings(2);
            check.due("ring " + i, Check.closed(x, 0, NOT_SIMPLE[i]), false);
            check.due("hole behind it", x.hole(0), false);
            check.due("it has no corners", x.report(100, 100, 0, 1), 0);
        }
    }

    private static void dueStillBeingMade(Check check) {
        check.sentence("An outer RING that is refused is still being made");
        for (int i = 0; i < NOT_SIMPLE.length; i++) {
            AreaCrossings x = new AreaCrossings(1);
            x.bars(0, 0, 0, 0);
            Check.closed(x, 0, NOT_SIMPLE[i]);
            check.due("ring without corners behind " + i, x.ring(0), false);
            check.due("twelve corners behind it", Check.bow(x, 0, 12, 0, 0), true);
            check.due("their ring", x.ring(0), true);
            check.due("is as they are", x.cell(5, 30, 0), 1);
            check.due("and no more", x.cell(5, 24, 0), 0);
        }
    }

    private static void dueHoles(Check check) {
        check.sentence("The RING that is being made is closed: HOLES");
        AreaCrossings x = Check.barred(0, 0, 20, 0, 20, 20, 0, 20);
        check.due("first hole", Check.rectangleHole(x, 0, 2, 2, 6, 6), true);
        check.due("second hole", Check.rectangleHole(x, 0, 8, 8, 12, 12), true);
        check.due("third hole", Check.closedHole(x, 0, 14, 14, 18, 14, 16, 18), true);
        check.due("in the area", x.cell(7, 7, 0), 1);
        check.due("on the outer ring", x.cell(20, 20, 0), 1);
        check.due("in the first hole", x.cell(4, 4, 0), 0);
        check.due("in the second hole", x.cell(9, 11, 0), 0);
        check.due("in the third hole", x.cell(16, 15, 0), 0);
        check.due("on a hole's ring", x.cell(2, 4, 0), 1);
        check.due("on a hole's corner", x.cell(12, 12, 0), 1);
    }

    private static void makeSquareWithHole(AreaCrossings x) {
        Check.rectangle(x, 0, 0, 0, 20, 20);
        Check.rectangleHole(x, 0, 5, 5, 10, 10);
        x.bars(0, 0, 0, 1);
        Check.path(x, 10, -10, 8, 70, 30, 8, 8000, 30, 12, 8010, 12, 12);
        x.run(0, 0);
    }

    /** It is refused, is none, and leaves the area as it was. */
    private static void dueRefused(Check check, String what, long... corners) {
        AreaCrossings x = new AreaCrossings(1);
        makeSquareWithHole(x);
        check.due("hole(0): " + what, x.hole(0), true);
        check.due("its corners", Check.corners(x, 0, corners), true);
        check.due("its ring", x.ring(0), false);
        check.due("corner behind it", x.corner(0, 1, 1), false);
        check.due("ring behind it", x.ring(0), false);
        Picture.dueUnchanged(check, "a hole that is refused: " + what, Promise03RingTest::makeSquareWithHole,
            y -> Check.closedHole(y, 0, corners));
    }

    private static void dueRefused(Check check, String what, long[][] rows) {
        for (int i = 0; i < rows.length; i++) {
            dueRefused(check, what + " " + i, rows[i]);
        }
    }

    private static void dueHoleTooSmall(Check check) {
        check.sentence("a HOLE that is refused is none, and none is being made then: fewer than three");
        dueRefused(check, "no corner");
        dueRefused(check, "one corner", 1, 1);
        dueRefused(check, "two corners", 1, 1, 2, 2);
    }

    private static void dueHoleNotSimple(Check check) {
        check.sentence("a HOLE that is refused is none, and none is being made then: not SIMPLE");
        dueRefused(check, "in a line", 1, 1, 3, 3, 2, 2);
        dueRefused(check, "crossing", 1, 1, 3, 3, 3, 1, 1, 3);
        dueRefused(check, "a corner twice", 1, 1, 3, 1, 3, 3, 1, 1);
        dueRefused(check, "one place alone", 2, 2, 2, 2, 2, 2);
        dueRefused(check, "a corner on a side", 1, 1, 5, 1, 5, 4, 3, 1, 1, 4);
    }

    private static void dueHoleMeetsOuter(Check check) {
        check.sentence("a HOLE also if one of its SIDES meets one of another RING of the AREA: the outer one");
        dueRefused(check, "meets the outer ring", MEETS_OUTER);
    }

    private static void dueHoleMeetsHole(Check check) {
        check.sentence("a HOLE also if one of its SIDES meets one of another RING of the AREA: a HOLE");
        dueRefused(check, "meets a hole", MEETS_A_HOLE);
        AreaCrossings x = new AreaCrossings(1);
        makeSquareWithHole(x);
        Check.rectangleHole(x, 0, 12, 12, 15, 15);
        check.due("meets the second hole alone", Check.rectangleHole(x, 0, 15, 13, 17, 14), false);
        check.due("meets the first hole alone", Check.rectangleHole(x, 0, 3, 6, 5, 7), false);
        check.due("meets none", Check.rectangleHole(x, 0, 16, 13, 17, 14), true);
        AreaCrossings y = new AreaCrossings(2);
        makeSquareWithHole(y);
        Check.rectangle(y, 1, 11, 11, 15, 15);
        check.due("meets a ring of another area", Check.rectangleHole(y, 0, 12, 12, 18, 18), true);
    }

    private static void dueHoleNotInTheArea(Check check) {
        check.sentence("a HOLE also if its first CORNER does not lie in the AREA");
        dueRefused(check, "not in the area", NOT_IN_THE_AREA);
    }

    private static void dueHoleJustWithin(Check check) {
        check.sentence("a HOLE is refused for these alone: one unit away from each RING it is none of them");
        long[][] fine = {
            {1, 1, 19, 1, 19, 4, 1, 4},
            {1, 1, 1, 2, 2, 1},
            {11, 1, 19, 1, 19, 19, 11, 19},
            {4, 1, 4, 19, 1, 19, 1, 1},
            {19, 19, 19, 18, 18, 19},
            {4, 4, 11, 4, 4, 3},
            {3, 6, 6, 3, 3, 3},
            {6, 3, 3, 6, 3, 3},
            {1, 1, 19, 1, 19, 19, 1, 19, 1, 11, 11, 11, 11, 4, 1, 4},
        };
        for (int i = 0; i < fine.length; i++) {
            AreaCrossings x = new AreaCrossings(1);
            makeSquareWithHole(x);
            check.due("hole " + i, Check.closedHole(x, 0, fine[i]), true);
            check.due("a third one may be made", x.hole(0), true);
        }
    }

    private static void dueRefusedHoleIsNone(Check check) {
        check.sentence("a HOLE that is refused, for whatever of these, is none");
        AreaCrossings x = new AreaCrossings(1);
        makeSquareWithHole(x);
        for (int i = 0; i < 5; i++) {
            check.due("refused", Check.rectangleHole(x, 0, 6, 6, 7, 7), false);
            check.due("refused", Check.closedHole(x, 0, 1, 1), false);
        }
        check.due("in none of them", x.cell(2, 2, 0), 1);
        check.due("second hole", Check.rectangleHole(x, 0, 1, 1, 3, 3), true);
        check.due("in it", x.cell(2, 2, 0), 0);
        check.due("refused", Check.rectangleHole(x, 0, 2, 2, 4, 4), false);
        check.due("third hole", Check.rectangleHole(x, 0, 12, 1, 14, 3), true);
        check.due("fourth hole", x.hole(0), false);
    }

    private static void dueNoneIsBeingMade(Check check) {
        check.sentence("False if none is being made");
        AreaCrossings x = Check.barred(0, 0, 10, 0, 10, 10, 0, 10);
        check.due("behind a closed ring", x.ring(0), false);
        check.due("the area is there still", x.cell(5, 5, 0), 1);
        Check.rectangleHole(x, 0, 2, 2, 4, 4);
        check.due("behind a closed hole", x.ring(0), false);
        check.due("the hole is there still", x.cell(3, 3, 0), 0);
        AreaCrossings y = new AreaCrossings(1);
        y.report(0, 0, 0, 5);
        check.due("behind a report", y.ring(0), false);
        check.due("the square is there still", y.cell(5, 5, 0), 1);
        Picture.dueUnchanged(check, "ring(0)", z -> z.ring(0));
    }

    private static void dueNoSuchArea(Check check) {
        check.sentence("False if there is no such AREA");
        AreaCrossings x = new AreaCrossings(2);
        check.due("ring(2)", x.ring(2), false);
        check.due("ring(-1)", x.ring(-1), false);
        check.due("ring(12)", x.ring(12), false);
        for (int area : Check.FAR_INTS) {
            check.due("ring(" + area + ")", x.ring(area), false);
        }
        Picture.dueUnchanged(check, "ring(3)", y -> y.ring(3));
        Picture.dueUnchanged(check, "ring(-1)", y -> y.ring(-1));
    }

    private static void dueHoleAroundAHole(Check check) {
        check.sentence("nothing refuses a HOLE around another one");
        AreaCrossings x = Check.barred(0, 0, 20, 0, 20, 20, 0, 20);
        check.due("inner", Check.rectangleHole(x, 0, 8, 8, 12, 12), true);
        check.due("around it", Check.rectangleHole(x, 0, 5, 5, 15, 15), true);
        check.due("in both", x.cell(10, 10, 0), 0);
        check.due("in the larger one", x.cell(6, 6, 0), 0);
        check.due("on the larger one's ring", x.cell(5, 9, 0), 1);
        check.due("on the smaller one's ring, in the larger one", x.cell(8, 9, 0), 0);
        check.due("in the larger one, refused", Check.rectangleHole(x, 0, 6, 6, 7, 7), false);
    }
}

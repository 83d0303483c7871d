/** Promise 4: hole. */
final class Promise04HoleTest {
    public static void main(String[] args) {
        Check check = new Check("promise 4");
        dueBeingMade(check);
        dueNotThere(check);
        dueNoSuchArea(check);
        dueThree(check);
        dueOneIsBeingMade(check);
        dueOfAReport(check);
        check.end();
    }

    private static void dueBeingMade(Check check) {
        check.sentence("A HOLE is being made");
        AreaCrossings x = Check.barred(0, 0, 20, 0, 20, 20, 0, 20);
        check.due("hole", x.hole(0), true);
        check.due("its corners", Check.corners(x, 0, 5, 5, 15, 5, 15, 15, 5, 15), true);
        check.due("the area stays while it is made", x.cell(10, 10, 0), 1);
        check.due("ring", x.ring(0), true);
        check.due("and is less behind that", x.cell(10, 10, 0), 0);
    }

    private static void dueNotThere(Check check) {
        check.sentence("false if the AREA is not there");
        AreaCrossings x = new AreaCrossings(2);
        check.due("without corners", x.hole(0), false);
        Check.corners(x, 0, 0, 0, 20, 0);
        check.due("with two corners", x.hole(0), false);
        Check.corners(x, 0, 20, 20, 0, 20);
        check.due("before the ring is closed", x.hole(0), false);
        check.due("its corners are kept: ring", x.ring(0), true);
        check.due("when it is closed", x.hole(0), true);
        check.due("of the other one", x.hole(1), false);
        Check.closed(x, 1, 0, 0, 5, 5);
        check.due("behind a ring that was refused", x.hole(1), false);
        Picture.dueUnchanged(check, "hole of what is not there", y -> y.hole(1));
    }

    private static void dueNoSuchArea(Check check) {
        check.sentence("false if the AREA is not there: there is no such one");
        AreaCrossings x = new AreaCrossings(2);
        Check.rectangle(x, 0, 0, 0, 20, 20);
        Check.rectangle(x, 1, 0, 0, 20, 20);
        check.due("hole(2)", x.hole(2), false);
        check.due("hole(-1)", x.hole(-1), false);
        check.due("hole(12)", x.hole(12), false);
        for (int area : Check.FAR_INTS) {
            check.due("hole(" + area + ")", x.hole(area), false);
        }
        check.due("hole(1)", x.hole(1), true);
        Picture.dueUnchanged(check, "hole(3)", y -> y.hole(3));
        Picture.dueUnchanged(check, "hole(-1)", y -> y.hole(-1));
    }

    private static void makeThreeHoles(AreaCrossings x) {
        Check.rectangle(x, 0, 0, 0, 20, 20);
        for (int i = 0; i < 3; i++) {
            Check.rectangleHole(x, 0, 1 + 4 * i, 1, 3 + 4 * i, 3);
        }
    }

    private static void dueThree(Check check) {
        check.sentence("false if it has three");
        AreaCrossings x = new AreaCrossings(2);
        Check.rectangle(x, 0, 0, 0, 20, 20);
        Check.rectangle(x, 1, 0, 0, 20, 20);
        for (int i = 0; i < 3; i++) {
            check.due("hole " + i, x.hole(0), true);
            check.due("hole closed", Check.rectangle(x, 0, 1 + 4 * i, 1, 3 + 4 * i, 3), true);
        }
        check.due("a fourth hole", x.hole(0), false);
        check.due("a fourth hole again", x.hole(0), false);
        check.due("corner behind it", x.corner(0, 15, 15), false);
        check.due("hole of the other area", x.hole(1), true);
        x.bars(0, 0, 0, 0);
        for (int i = 0; i < 3; i++) {
            check.due("in hole " + i, x.cell(2 + 4 * i, 2, 0), 0);
        }
        Picture.dueUnchanged(check, "a fourth hole", Promise04HoleTest::makeThreeHoles, y -> y.hole(0));
    }

    private static void dueOneIsBeingMade(Check check) {
        check.sentence("false if one is being made");
        AreaCrossings x = Check.barred(0, 0, 20, 0, 20, 20, 0, 20);
        check.due("hole", x.hole(0), true);
        check.due("hole behind it at once", x.hole(0), false);
        Check.corners(x, 0, 5, 5, 15, 5);
        check.due("hole behind two corners", x.hole(0), false);
        Check.corners(x, 0, 15, 15, 5, 15);
        check.due("hole behind four corners", x.hole(0), false);
        check.due("the four corners are kept", x.ring(0), true);
        check.due("in the hole", x.cell(6, 14, 0), 0);
        check.due("behind the closed hole", x.hole(0), true);
        x.ring(0);
        check.due("behind a refused hole", x.hole(0), true);
        Picture.dueUnchanged(check, "hole while one is being made", y -> y.hole(2));
    }

    private static void dueOfAReport(Check check) {
        check.sentence("a reported AREA is there, and has no HOLE");
        AreaCrossings x = new AreaCrossings(1);
        check.due("report", x.report(100, 100, 0, 5), 0);
        check.due("first hole", Check.rectangleHole(x, 0, 98, 98, 102, 102), true);
        check.due("cell in it", x.cell(100, 100, 0), 0);
        check.due("cell on its ring", x.cell(98, 100, 0), 1);
        check.due("its second hole", Check.rectangleHole(x, 0, 96, 96, 97, 97), true);
        check.due("its third hole", Check.rectangleHole(x, 0, 103, 103, 104, 104), true);
        check.due("no fourth one", x.hole(0), false);
    }
}

/** Promise 2: corner. */
final class Promise02CornerTest {
    public static void main(String[] args) {
        Check check = new Check("promise 2");
        dueOuter(check);
        dueOfAHole(check);
        dueNoneIsBeingMade(check);
        dueTwelve(check);
        dueTwelveOfAHole(check);
        dueTwelveAnew(check);
        dueCoordinates(check);
        dueNoSuchArea(check);
        check.end();
    }

    private static void dueOuter(Check check) {
        check.sentence("A CORNER more of the RING that is being made of an AREA (its outer one)");
        AreaCrossings x = new AreaCrossings(2);
        check.due("first corner", x.corner(0, 0, 0), true);
        check.due("first corner of another area", x.corner(1, 20, 20), true);
        check.due("second corner", x.corner(0, 9, 0), true);
        check.due("ring of two", x.ring(0), false);
        check.due("three corners", Check.corners(x, 0, 0, 0, 9, 0, 0, 9), true);
        check.due("ring of three", x.ring(0), true);
        x.bars(0, 0, 0, 0);
        check.due("in the triangle", x.cell(4, 5, 0), 1);
        check.due("out of it", x.cell(5, 5, 0), 0);
    }

    private static void dueOfAHole(Check check) {
        check.sentence("behind hole() that HOLE");
        AreaCrossings x = Check.barred(0, 0, 20, 0, 20, 20, 0, 20);
        check.due("hole", x.hole(0), true);
        check.due("corners", Check.corners(x, 0, 5, 5, 14, 5, 5, 14), true);
        check.due("ring", x.ring(0), true);
        check.due("in the hole", x.cell(8, 8, 0), 0);
        check.due("out of it", x.cell(10, 10, 0), 1);
        check.due("on the outer ring", x.cell(20, 20, 0), 1);
    }

    private static void dueNoneIsBeingMade(Check check) {
        check.sentence("false if none is being made");
        AreaCrossings x = new AreaCrossings(2);
        Check.rectangle(x, 0, 0, 0, 20, 20);
        check.due("behind a closed outer ring", x.corner(0, 5, 5), false);
        for (int i = 0; i < 3; i++) {
            x.hole(0);
            check.due("behind hole() " + i, x.corner(0, 2, 2), true);
            x.ring(0);
            check.due("behind a refused hole", x.corner(0, 5, 5), false);
            check.due("hole " + i, Check.rectangleHole(x, 0, 2 + 4 * i, 2, 4 + 4 * i, 4), true);
            check.due("behind closed hole " + i, x.corner(0, 5, 15), false);
        }
        check.due("a fourth hole", x.hole(0), false);
        check.due("behind it", x.corner(0, 5, 15), false);
        x.report(50, 50, 0, 5);
        check.due("behind a report", x.corner(1, 50, 50), false);
        Picture.dueUnchanged(check, "corner of an area that is there", y -> y.corner(0, 1, 1));
    }

    private static void dueTwelve(Check check) {
        check.sentence("false if it has 12");
        AreaCrossings x = new AreaCrossings(1);
        for (int k = 0; k < 12; k++) {
            check.due("corner " + k, x.corner(0, k, k * k), true);
        }
        check.due("corner 12", x.corner(0, 0, 144), false);
        check.due("corner 12 again", x.corner(0, 0, 144), false);
        check.due("ring of twelve", x.ring(0), true);
        // (0, 100) would be in the ring if the corner that was refused belonged to it.
        x.bars(0, 0, 0, 0);
        check.due("cell(0, 100)", x.cell(0, 100, 0), 0);
        check.due("cell(6, 36), the seventh corner", x.cell(6, 36, 0), 1);
        check.due("cell(0, 0), the first corner", x.cell(0, 0, 0), 1);
        check.due("cell(11, 121), the twelfth corner", x.cell(11, 121, 0), 1);
        Picture.dueUnchanged(check, "a thirteenth corner",
            y -> Check.bow(y, 1, 12, -180, -180), y -> y.corner(1, -180, -30));
    }

    private static void dueTwelveOfAHole(Check check) {
        check.sentence("false if it has 12: of a HOLE");
        AreaCrossings x = Check.barred(-10, -10, 190, -10, 190, 190, -10, 190);
        x.hole(0);
        for (int k = 0; k < 12; k++) {
            check.due("corner " + k, x.corner(0, k, k * k), true);
        }
        check.due("corner 12", x.corner(0, 0, 144), false);
        check.due("ring of twelve", x.ring(0), true);
        check.due("cell(0, 100)", x.cell(0, 100, 0), 1);
        check.due("cell(5, 30), in the hole", x.cell(5, 30, 0), 0);
    }

    private static void dueTwelveAnew(Check check) {
        check.sentence("false if it has 12: a RING that was refused has none any more");
        AreaCrossings x = new AreaCrossings(1);
        for (int k = 0; k < 12; k++) {
            x.corner(0, k, 0);
        }
        check.due("corner 12", x.corner(0, 5, 5), false);
        check.due("twelve in a line", x.ring(0), false);
        check.due("twelve anew", Check.bow(x, 0, 12, 0, 0), true);
        check.due("corner 12 anew", x.corner(0, 0, 144), false);
        check.due("ring", x.ring(0), true);
    }

    private static void dueCoordinates(Check check) {
        check.sentence("false if a COORDINATE is none");
        AreaCrossings x = new AreaCrossings(1);
        long[] near = {201, -201, 202, -202, 256, -256, 400, -400};
        for (long value : near) {
            dueNoCoordinate(check, x, value);
        }
        for (long value : Check.WRAPPED) {
            dueNoCoordinate(check, x, value);
        }
        check.due("corner(0, -200, -200)", x.corner(0, -200, -200), true);
        check.due("corner(0, 200, -200)", x.corner(0, 200, -200), true);
        check.due("corner(0, 200, 200)", x.corner(0, 200, 200), true);
        check.due("corner(0, -200, 200)", x.corner(0, -200, 200), true);
        check.due("ring of those four alone", x.ring(0), true);
        x.bars(0, 0, 0, 0);
        check.due("cell(-200, 200)", x.cell(-200, 200, 0), 1);
        check.due("cell(200, 0)", x.cell(200, 0, 0), 1);
        Picture.dueUnchanged(check, "corner(1, 201, 0)", y -> y.corner(1, 201, 0));
        Picture.dueUnchanged(check, "corner(2, 0, -201), of a hole", y -> y.corner(2, 0, -201));
    }

    private static void dueNoCoordinate(Check check, AreaCrossings x, long value) {
        check.due("corner(0, " + value + ", 0)", x.corner(0, value, 0), false);
        check.due("corner(0, 0, " + value + ")", x.corner(0, 0, value), false);
        check.due("corner(0, " + value + ", " + value + ")", x.corner(0, value, value), false);
    }

    private static void dueNoSuchArea(Check check) {
        check.sentence("ArrayIndexOutOfBounds: there is no such AREA");
        for (int areas = 1; areas <= 12; areas++) {
            AreaCrossings x = new AreaCrossings(areas);
            dueThrows(check, x, areas);
            dueThrows(check, x, -1);
            check.due("corner(0) throws", Check.cornerThrows(x, 0, 0, 0), false);
            check.due("corner of the last one throws", Check.cornerThrows(x, areas - 1, 0, 0), false);
        }
        AreaCrossings x = new AreaCrossings(12);
        for (int area : Check.FAR_INTS) {
            dueThrows(check, x, area);
        }
        // None of these is a reason to throw.
        check.due("a wrong coordinate throws", Check.cornerThrows(x, 0, 999, Long.MIN_VALUE), false);
        Check.rectangle(x, 0, 0, 0, 5, 5);
        check.due("a closed ring throws", Check.cornerThrows(x, 0, 0, 0), false);
        Check.bow(x, 1, 12, 0, 0);
        check.due("a thirteenth corner throws", Check.cornerThrows(x, 1, 0, 0), false);
        Picture.dueUnchanged(check, "corner(3)", y -> Check.cornerThrows(y, 3, 0, 0));
        Picture.dueUnchanged(check, "corner(-1)", y -> Check.cornerThrows(y, -1, 0, 0));
    }

    /** There is no such area, whatever the coordinates. */
    private static void dueThrows(Check check, AreaCrossings x, int area) {
        check.due("corner(" + area + ") throws", Check.cornerThrows(x, area, 0, 0), true);
        check.due("corner(" + area + ", 999) throws", Check.cornerThrows(x, area, 999, 0), true);
    }
}

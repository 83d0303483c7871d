/** Promise 4: hole. */
final class Promise04HoleTest {
    public static void main(String[] args) {
        Check check = new Check();
        AreaCrossings x = new AreaCrossings(2);
        int[] none = {2, -1, 99, Integer.MIN_VALUE, Integer.MAX_VALUE};
        for (int area : none) {
            check.due("hole(" + area + ")", x.hole(area), false);
        }
        check.due("hole of what is not there", x.hole(0), false);
        Check.corners(x, 0, 0, 0, 20, 0, 20, 20, 0, 20);
        check.due("hole before the ring is closed", x.hole(0), false);
        check.due("ring", x.ring(0), true);
        for (int i = 0; i < 3; i++) {
            check.due("hole " + i, x.hole(0), true);
            check.due("hole while one is being made", x.hole(0), false);
            check.due("hole closed", Check.rectangle(x, 0, 1 + 4 * i, 1, 3 + 4 * i, 3), true);
        }
        check.due("a fourth hole", x.hole(0), false);
        check.due("corner behind it", x.corner(0, 15, 15), false);
        check.due("report makes area 1", x.report(100, 100, 0, 5), 1);
        check.due("hole of a reported area", Check.rectangleHole(x, 1, 98, 98, 102, 102), true);
        check.due("cell in it", x.cell(100, 100, 0), 0);
        check.due("cell on its ring", x.cell(98, 100, 0), 1);
        check.due("its second hole", Check.rectangleHole(x, 1, 96, 96, 97, 97), true);
        check.due("its third hole", Check.rectangleHole(x, 1, 103, 103, 104, 104), true);
        check.due("no fourth one", x.hole(1), false);
        dueAreaStaysWhileOneIsMade(check);
        check.end();
    }

    private static void dueAreaStaysWhileOneIsMade(Check check) {
        AreaCrossings x = new AreaCrossings(1);
        Check.rectangle(x, 0, 0, 0, 20, 20);
        x.bars(0, 3, 0, 0);
        x.hole(0);
        Check.corners(x, 0, 5, 5, 15, 5, 15, 15, 5, 15);
        check.due("cell before the hole is closed", x.cell(10, 10, 0), 1);
        check.due("ring", x.ring(0), true);
        check.due("cell behind that", x.cell(10, 10, 0), 0);
    }
}

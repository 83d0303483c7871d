/** Promise 1: a new object. */
final class Promise01NewObjectTest {
    public static void main(String[] args) {
        Check check = new Check();
        dueAreas(check, 1, 1);
        dueAreas(check, 5, 5);
        dueAreas(check, 12, 12);
        dueAreas(check, 13, 12);
        dueAreas(check, Integer.MAX_VALUE, 12);
        dueAreas(check, 0, 1);
        dueAreas(check, -1, 1);
        dueAreas(check, Integer.MIN_VALUE, 1);
        dueNoneThere(check);
        dueApart(check);
        check.end();
    }

    private static void dueAreas(Check check, int asked, int want) {
        AreaCrossings x = new AreaCrossings(asked);
        for (int area = -1; area <= 13; area++) {
            boolean none = area < 0 || area >= want;
            check.due("new " + asked + ": corner(" + area + ") throws", Check.cornerThrows(x, area, 1, 2), none);
        }
    }

    private static void dueNoneThere(Check check) {
        AreaCrossings x = new AreaCrossings(12);
        for (int area = 0; area < 12; area++) {
            check.due("bars", x.bars(area, 0, 0, 400), true);
            check.due("told(" + area + ")", x.told(area, 0), false);
            check.due("hole(" + area + ")", x.hole(area), false);
            check.due("buffer(" + area + ")", x.buffer(area, 5), -1);
        }
        check.due("cell", x.cell(0, 0, 0), 0);
        check.due("entry", x.entry(0, 0), -1);
        check.due("side", x.side(0), -1);
    }

    /** What one object holds is nothing to another one. */
    private static void dueApart(Check check) {
        AreaCrossings one = new AreaCrossings(1);
        AreaCrossings other = new AreaCrossings(1);
        Check.rectangle(one, 0, 0, 0, 5, 5);
        one.bars(0, 0, 0, 9);
        one.track();
        check.due("cell of one", one.cell(1, 1, 1), 1);
        check.due("cell of the other", other.cell(1, 1, 1), 0);
        check.due("run of the other", other.run(0, 0), -1);
    }
}

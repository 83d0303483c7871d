/** Promise 1: a new object. */
final class Promise01NewObjectTest {
    public static void main(String[] args) {
        Check check = new Check("promise 1");
        dueSoMany(check);
        dueTooFew(check);
        dueTooMany(check);
        dueNoneThere(check);
        dueNothingElse(check);
        dueApart(check);
        check.end();
    }

    private static void dueAreas(Check check, int asked, int want) {
        AreaCrossings x = new AreaCrossings(asked);
        for (int area = -2; area <= 14; area++) {
            boolean none = area < 0 || area >= want;
            check.due("new " + asked + ": corner(" + area + ") throws", Check.cornerThrows(x, area, 1, 2), none);
            check.due("new " + asked + ": bars(" + area + ")", x.bars(area, 0, 0, 0), !none);
            check.due("new " + asked + ": speed(" + area + ")", x.speed(area, 1), !none);
        }
    }

    private static void dueSoMany(Check check) {
        check.sentence("So many AREAS: 1 .. 12");
        for (int areas = 1; areas <= 12; areas++) {
            dueAreas(check, areas, areas);
        }
    }

    private static void dueTooFew(Check check) {
        check.sentence("the nearest for another number: below 1");
        int[] below = {0, -1, -2, -12, -(1 << 16) + 4, Integer.MIN_VALUE + 5, Integer.MIN_VALUE};
        for (int asked : below) {
            dueAreas(check, asked, 1);
        }
    }

    private static void dueTooMany(Check check) {
        check.sentence("the nearest for another number: above 12");
        int[] above = {13, 14, 24, 256 + 3, (1 << 16) + 4, 512_000_000, Integer.MAX_VALUE};
        for (int asked : above) {
            dueAreas(check, asked, 12);
        }
    }

    private static void dueNoneThere(Check check) {
        check.sentence("none there yet");
        AreaCrossings x = new AreaCrossings(12);
        int track = Check.path(x, 0, 0, 0, 60, 5, 5, 8000, 6, 6);
        for (int area = 0; area < 12; area++) {
            x.bars(area, 0, 0, 400);
            check.due("told(" + area + ")", x.told(area, 0), false);
            check.due("hole(" + area + ")", x.hole(area), false);
            check.due("buffer(" + area + ")", x.buffer(area, 5), -1);
            check.due("inside(" + area + ")", x.inside(area, track, -1), -1);
            check.due("overlap(" + area + ")", x.overlap(area, (area + 1) % 12), -1);
        }
        check.due("cell", x.cell(0, 0, 0), 0);
        check.due("maybe", x.maybe(track, 0), false);
        check.due("run", x.run(track, 0), 0);
    }

    private static void dueNothingElse(Check check) {
        check.sentence("a new object has no RULE, TRACK or CROSSING");
        AreaCrossings x = new AreaCrossings(1);
        check.due("entry", x.entry(0, 0), -1);
        check.due("side", x.side(0), -1);
        check.due("run", x.run(0, 0), -1);
        check.due("place", x.place(0, 0, 0, 0), false);
        Check.rectangle(x, 0, 0, 0, 5, 5);
        check.due("told(0, 0)", x.told(0, 0), false);
        check.due("told(0, 400)", x.told(0, 400), false);
        check.due("buffer", x.buffer(0, 400), 0);
        check.due("track", x.track(), 0);
    }

    private static void dueApart(Check check) {
        check.sentence("what one object holds is nothing to another one");
        AreaCrossings one = new AreaCrossings(1);
        AreaCrossings other = new AreaCrossings(1);
        Check.rectangle(one, 0, 0, 0, 5, 5);
        one.bars(0, 0, 0, 9);
        one.track();
        check.due("cell of one", one.cell(1, 1, 1), 1);
        check.due("cell of the other", other.cell(1, 1, 1), 0);
        check.due("run of the other", other.run(0, 0), -1);
    }
}

/** Promise 13: inside. */
final class Promise13InsideTest {
    public static void main(String[] args) {
        Check check = new Check();
        dueWrong(check);
        dueParts(check);
        dueCut(check);
        dueOneStretch(check);
        dueWhatDoesNotMatter(check);
        dueLargest(check);
        check.end();
    }

    private static void dueWrong(Check check) {
        AreaCrossings x = new AreaCrossings(2);
        Check.rectangle(x, 0, 0, 0, 10, 10);
        int t = Check.path(x, 0, 1, 1, 60, 5, 5);
        int[] none = {1, 2, -1, Integer.MIN_VALUE, Integer.MAX_VALUE};
        for (int area : none) {
            check.due("area " + area, x.inside(area, t, 0), -1);
            check.due("all in area " + area, x.inside(area, t, -1), -1);
        }
        int[] noTrack = {1, -1, 6, Integer.MIN_VALUE, Integer.MAX_VALUE};
        for (int track : noTrack) {
            check.due("track " + track, x.inside(0, track, 0), -1);
            check.due("all of track " + track, x.inside(0, track, -1), -1);
        }
        int[] noPiece = {1, -2, 28, Integer.MIN_VALUE, Integer.MAX_VALUE};
        for (int part : noPiece) {
            check.due("piece " + part, x.inside(0, t, part), -1);
        }
        check.due("piece 0", x.inside(0, t, 0), 60_000);
        int empty = x.track();
        check.due("all of none", x.inside(0, empty, -1), 0);
        check.due("piece 0 of none", x.inside(0, empty, 0), -1);
        x.place(empty, 0, 5, 5);
        check.due("all of one place", x.inside(0, empty, -1), 0);
        check.due("piece 0 of one place", x.inside(0, empty, 0), -1);
    }

    private static void dueParts(Check check) {
        AreaCrossings x = new AreaCrossings(1);
        Check.rectangle(x, 0, 0, 0, 10, 10);
        Check.rectangleHole(x, 0, 3, 3, 7, 7);
        int t = Check.path(x, 0, -10, 5, 60, 20, 5, 120, 20, 10, 180, -20, 10, 200, 5, 5, 260, 5, 5,
            320, 10, 10, 380, 10, 10, 440, 20, 10);
        check.due("through a hole", x.inside(0, t, 0), 12_000);
        check.due("outside", x.inside(0, t, 1), 0);
        check.due("along a side", x.inside(0, t, 2), 15_000);
        check.due("into a hole", x.inside(0, t, 3), 2_400);
        check.due("still in a hole", x.inside(0, t, 4), 0);
        check.due("out of a hole to a corner", x.inside(0, t, 5), 36_000);
        check.due("still on a corner", x.inside(0, t, 6), 60_000);
        check.due("away from a corner", x.inside(0, t, 7), 0);
        check.due("all", x.inside(0, t, -1), 125_400);
    }

    /** Three teeth of 66 2/3 thousandths of a second each: each is cut, not their sum. */
    private static void dueCut(Check check) {
        AreaCrossings x = new AreaCrossings(1);
        Check.closed(x, 0, 0, 0, 0, 10, 2, 10, 2, 2, 4, 2, 4, 10, 6, 10, 6, 2, 8, 2, 8, 10, 10, 10, 10, 0);
        int t = Check.path(x, 0, -5, 5, 1, 25, 5, 2, -5, 5);
        check.due("three teeth", x.inside(0, t, 0), 198);
        check.due("both pieces", x.inside(0, t, -1), 396);
    }

    /** A stretch that touches a ring on its way is one, from 1 / 7 to 6 / 7 here: 714 2/7 thousandths. */
    private static void dueOneStretch(Check check) {
        AreaCrossings x = new AreaCrossings(1);
        Check.closed(x, 0, 0, 0, 5, 0, 5, 10, 3, 5, 2, 10, 0, 10);
        int t = Check.path(x, 0, -1, 5, 1, 6, 5);
        check.due("past a notch", x.inside(0, t, 0), 714);
    }

    private static void dueWhatDoesNotMatter(Check check) {
        AreaCrossings x = new AreaCrossings(1);
        Check.rectangle(x, 0, 0, 0, 10, 10);
        x.speed(0, 1);
        int t = Check.path(x, 0, 1, 5, 3600, 9, 5, 7201, 9, 5, 40_000_000 - 1, 1, 5, 40_000_000, 2, 5);
        check.due("fast, without a rule", x.inside(0, t, 0), 3_600_000);
        check.due("a gap", x.inside(0, t, 1), 0);
        check.due("a long gap", x.inside(0, t, 2), 0);
        check.due("a day behind the last", x.inside(0, t, 3), 1000);
        check.due("all", x.inside(0, t, -1), 3_601_000);
    }

    private static void dueLargest(Check check) {
        AreaCrossings x = new AreaCrossings(1);
        Check.closed(x, 0, -200, -200, 199, 200, 200, 199);
        int t = Check.path(x, 0, -200, 200, 3600, 200, -199);
        // From 159600 / 319201 to 200 / 399.
        check.due("fine fractions", x.inside(0, t, 0), 4516);
        AreaCrossings y = new AreaCrossings(1);
        Check.rectangle(y, 0, -200, -200, 200, 200);
        int far = Check.path(y, 0, -200, 200, 3600, 200, -200);
        check.due("from corner to corner", y.inside(0, far, 0), 3_600_000);
    }
}

/** The terms on areas and their holes. */
final class TermsAreaTest {
    public static void main(String[] args) {
        Check check = new Check("terms");
        dueUpToThreeHoles(check);
        dueInOrOnTheOuterRing(check);
        dueWhatLiesInAHole(check);
        dueItsRingBelongsToIt(check);
        dueBetweenWholePlaces(check);
        dueThereWhenClosed(check);
        dueNumberedFromZero(check);
        check.end();
    }

    private static void dueUpToThreeHoles(Check check) {
        check.sentence("An AREA has an outer RING, and up to three HOLES");
        AreaCrossings x = Check.barred(0, 0, 40, 0, 40, 10, 0, 10);
        for (int holes = 0; holes < 4; holes++) {
            int taken = 0;
            for (int i = 0; i < 4; i++) {
                taken += x.cell(5 + 10 * i, 5, 0) == 0 ? 1 : 0;
            }
            check.due("holes", taken, holes);
            check.due("hole " + holes, Check.rectangleHole(x, 0, 3 + 10 * holes, 3, 7 + 10 * holes, 7), holes < 3);
        }
        check.due("where the fourth would be", x.cell(35, 5, 0), 1);
    }

    private static void dueInOrOnTheOuterRing(Check check) {
        check.sentence("it is all that lies in the outer RING or on it");
        AreaCrossings x = Check.barred(0, 0, 12, 0, 6, 12);
        int[][] in = {{6, 6}, {6, 1}, {1, 1}, {0, 0}, {12, 0}, {6, 12}, {6, 0}, {3, 6}, {9, 6}, {1, 2}, {11, 2}};
        for (int[] place : in) {
            check.due("cell(" + place[0] + ", " + place[1] + ")", x.cell(place[0], place[1], 0), 1);
        }
        int[][] out = {{-1, 0}, {13, 0}, {6, 13}, {6, -1}, {2, 6}, {10, 6}, {0, 1}, {12, 1}, {5, 12}, {7, 12}, {0, 12}, {-6, -12}};
        for (int[] place : out) {
            check.due("cell(" + place[0] + ", " + place[1] + ")", x.cell(place[0], place[1], 0), 0);
        }
    }

    private static void dueWhatLiesInAHole(Check check) {
        check.sentence("but what lies in a HOLE");
        AreaCrossings x = Check.barred(0, 0, 20, 0, 20, 20, 0, 20);
        Check.closedHole(x, 0, 4, 4, 16, 4, 10, 16);
        Check.closedHole(x, 0, 1, 18, 3, 18, 2, 16);
        int[][] in = {{10, 10}, {10, 5}, {5, 5}, {15, 5}, {10, 15}, {2, 17}};
        for (int[] place : in) {
            check.due("in a hole, " + place[0] + ", " + place[1], x.cell(place[0], place[1], 0), 0);
        }
        int[][] out = {{3, 4}, {17, 4}, {10, 3}, {10, 17}, {6, 10}, {14, 10}, {1, 17}, {3, 17}, {2, 19}, {2, 15}};
        for (int[] place : out) {
            check.due("beside it, " + place[0] + ", " + place[1], x.cell(place[0], place[1], 0), 1);
        }
    }

    private static void dueItsRingBelongsToIt(Check check) {
        check.sentence("(its RING belongs to the AREA)");
        AreaCrossings x = Check.barred(0, 0, 20, 0, 20, 20, 0, 20);
        Check.closedHole(x, 0, 4, 4, 16, 4, 10, 16);
        int[][] on = {{4, 4}, {16, 4}, {10, 16}, {10, 4}, {7, 10}, {13, 10}, {5, 6}};
        for (int[] place : on) {
            check.due("on it, " + place[0] + ", " + place[1], x.cell(place[0], place[1], 0), 1);
        }
        check.dueRun(x, "0:0+0/1", 0, 2, 4, 60, 18, 4);
        check.due("inside along a hole's side", x.inside(0, 0, 0), 60_000);
        check.dueRun(x, "0:0+0/1", 0, 2, 16, 60, 18, 16);
        check.dueRun(x, "0:0+0/1", 0, 3, 2, 60, 10, 16, 120, 17, 2);
        check.due("places near, none of which is away", x.buffer(0, 0), 7);
    }

    private static void dueBetweenWholePlaces(Check check) {
        check.sentence("it is all that lies in the outer RING or on it, but what lies in a HOLE: between whole places");
        AreaCrossings x = Check.barred(0, 0, 7, 0, 7, 3, 0, 3);
        Check.closedHole(x, 0, 1, 1, 2, 1, 1, 2);
        // Across the hole's slanted side at (3/2, 3/2) and its corner (1, 1).
        check.dueRun(x, "0:0+0/1 0:0-1/3 0:0+1/2", 0, 0, 0, 60, 3, 3);
        // In by its left side at (1, 8/7), out by the slanted one at (7/4, 5/4).
        check.dueRun(x, "0:0+0/1 0:0-1/7 0:0+1/4", 0, 0, 1, 60, 7, 2);
    }

    private static void dueThereWhenClosed(Check check) {
        check.sentence("An AREA is there when its outer RING is closed");
        AreaCrossings x = new AreaCrossings(2);
        Check.rectangle(x, 1, 0, 0, 5, 5);
        x.bars(0, 0, 0, 400);
        int t = Check.path(x, 0, -5, 5, 60, 15, 5, 8000, 10, 10);
        Check.corners(x, 0, 0, 0, 10, 0, 10, 10, 0, 10);
        dueThere(check, x, t, false);
        check.due("ring", x.ring(0), true);
        dueThere(check, x, t, true);
        check.due("hole", x.hole(0), true);
        dueThere(check, x, t, true);
        check.due("a refused hole", x.ring(0), false);
        dueThere(check, x, t, true);
    }

    private static void dueThere(Check check, AreaCrossings x, int t, boolean there) {
        check.due("told", x.told(0, 0), there);
        check.due("cell", x.cell(5, 5, 0), there ? 1 : 0);
        check.due("run", x.run(t, 0), there ? 2 : 0);
        check.due("inside", x.inside(0, t, 0), there ? 30_000 : -1);
        check.due("buffer", x.buffer(0, 0), there ? 1 : -1);
        check.due("overlap", x.overlap(0, 1), there ? 1 : -1);
        check.due("overlap, the other way", x.overlap(1, 0), there ? 1 : -1);
    }

    private static void dueNumberedFromZero(Check check) {
        check.sentence("AREAS are numbered from 0 on");
        for (int areas = 1; areas <= 12; areas++) {
            AreaCrossings x = new AreaCrossings(areas);
            check.due("the first is 0", Check.rectangle(x, 0, 0, 0, 5, 5), true);
            check.due("the last of " + areas, Check.rectangle(x, areas - 1, 0, 0, 5, 5), areas > 1);
            check.due("none is " + areas, Check.cornerThrows(x, areas, 0, 0), true);
            check.due("none is -1", Check.cornerThrows(x, -1, 0, 0), true);
        }
        AreaCrossings y = new AreaCrossings(12);
        for (int area = 0; area < 5; area++) {
            check.due("report", y.report(0, 0, 0, 1), area);
        }
    }
}

/** Promise 18: cell. */
final class Promise18CellTest {
    public static void main(String[] args) {
        Check check = new Check("promise 18");
        dueHowMany(check);
        dueFull(check);
        dueHaveThePlace(check);
        dueShape(check);
        dueNoSuchPlace(check);
        dueNoSuchDay(check);
        check.end();
    }

    private static void dueHowMany(Check check) {
        check.sentence("How many AREAS have a place, and bar some GEAR there on a DAY");
        AreaCrossings x = new AreaCrossings(4);
        check.due("none there", x.cell(5, 5, 0), 0);
        Check.rectangle(x, 0, 0, 0, 10, 10);
        Check.rectangle(x, 1, 5, 5, 15, 15);
        Check.rectangle(x, 2, 0, 0, 20, 20);
        Check.corners(x, 3, 0, 0, 10, 0, 10, 10, 0, 10);
        check.due("no rule", x.cell(5, 5, 1), 0);
        x.bars(0, 0, 1, 2);
        x.bars(0, 1, 1, 2);
        check.due("two rules of one area", x.cell(5, 5, 1), 1);
        x.bars(1, 6, 2, 3);
        x.bars(3, 6, 0, 400);
        check.due("day 0", x.cell(5, 5, 0), 0);
        check.due("day 1", x.cell(5, 5, 1), 1);
        check.due("day 2", x.cell(5, 5, 2), 2);
        check.due("day 3", x.cell(5, 5, 3), 1);
        check.due("day 4", x.cell(5, 5, 4), 0);
        check.due("in the first alone", x.cell(4, 4, 2), 1);
        check.due("in the third alone", x.cell(20, 20, 2), 0);
        x.bars(2, 6, 2, 2);
        check.due("in the third, which bars now", x.cell(20, 20, 2), 1);
        check.due("in all", x.cell(10, 10, 2), 3);
        x.ring(3);
        check.due("in all four", x.cell(10, 10, 2), 4);
    }

    private static void dueFull(Check check) {
        check.sentence("How many AREAS: none, and all twelve");
        AreaCrossings x = new AreaCrossings(12);
        for (int area = 0; area < 12; area++) {
            check.due("areas " + area, x.cell(5, 5, 0), area);
            Check.rectangle(x, area, 0, 0, 10, 10);
            x.bars(area, area % 8, 0, 0);
        }
        check.due("all", x.cell(5, 5, 0), 12);
        check.due("none", x.cell(11, 5, 0), 0);
    }

    private static void dueHaveThePlace(Check check) {
        check.sentence("have a place: on a RING too, not in a HOLE");
        AreaCrossings x = Check.barred(0, 0, 10, 0, 10, 10, 0, 10);
        Check.rectangleHole(x, 0, 3, 3, 7, 7);
        String[] rows = {
            ".............", ".###########.", ".###########.", ".###########.", ".###########.",
            ".####...####.", ".####...####.", ".####...####.",
            ".###########.", ".###########.", ".###########.", ".###########.", ".............",
        };
        for (int row = 0; row < rows.length; row++) {
            StringBuilder got = new StringBuilder();
            for (int column = 0; column < 13; column++) {
                got.append(x.cell(column - 1, row - 1, 0) == 1 ? '#' : '.');
            }
            check.due("cells of row " + (row - 1), got.toString(), rows[row]);
        }
    }

    /** Each place in and around a ring with sides of many directions, by hand. */
    private static void dueShape(Check check) {
        check.sentence("have a place: a RING with SIDES of many directions");
        String[] rows = {
            "........",
            ".#...#..",
            ".##.##..",
            ".#####..",
            ".######.",
            ".#####..",
            "........",
        };
        AreaCrossings x = new AreaCrossings(1);
        check.due("ring", Check.closed(x, 0, 1, 1, 5, 1, 6, 2, 5, 3, 5, 5, 3, 3, 1, 5), true);
        x.bars(0, 0, 0, 0);
        for (int row = 0; row < rows.length; row++) {
            for (int column = 0; column < 8; column++) {
                int y = rows.length - 1 - row;
                int want = rows[row].charAt(column) == '#' ? 1 : 0;
                check.due("cell(" + column + ", " + y + ")", x.cell(column, y, 0), want);
            }
        }
    }

    private static void dueNoSuchPlace(Check check) {
        check.sentence("have a place: none has one that is not within the COORDINATES");
        AreaCrossings x = Check.barred(-200, -200, 200, -200, 200, 200, -200, 200);
        int[][] corners = {{200, -200}, {200, 200}, {-200, 200}, {-200, -200}, {200, 0}, {0, -200}};
        for (int[] place : corners) {
            check.due("cell(" + place[0] + ", " + place[1] + ")", x.cell(place[0], place[1], 400), 1);
        }
        int[] near = {201, -201, 202, -202, 400, -400};
        for (int value : near) {
            dueNone(check, x, value);
        }
        for (int value : Check.FAR_INTS) {
            dueNone(check, x, value);
        }
    }

    private static void dueNone(Check check, AreaCrossings x, int value) {
        check.due("cell(" + value + ", 0)", x.cell(value, 0, 0), 0);
        check.due("cell(0, " + value + ")", x.cell(0, value, 0), 0);
        check.due("cell(" + value + ", " + value + ")", x.cell(value, value, 0), 0);
    }

    private static void dueNoSuchDay(Check check) {
        check.sentence("on a DAY: none bars on one that is not");
        AreaCrossings x = Check.barred(0, 0, 10, 0, 10, 10, 0, 10);
        check.due("day 0", x.cell(5, 5, 0), 1);
        check.due("day 400", x.cell(5, 5, 400), 1);
        check.due("day -1", x.cell(5, 5, -1), 0);
        check.due("day 401", x.cell(5, 5, 401), 0);
        for (long day : Check.WRAPPED) {
            check.due("day " + day, x.cell(5, 5, day), 0);
        }
    }
}

/** Promise 18: cell. */
final class Promise18CellTest {
    public static void main(String[] args) {
        Check check = new Check();
        dueCounted(check);
        dueEdges(check);
        dueShape(check);
        check.end();
    }

    private static void dueCounted(Check check) {
        AreaCrossings x = new AreaCrossings(4);
        check.due("none there", x.cell(5, 5, 0), 0);
        Check.rectangle(x, 0, 0, 0, 10, 10);
        Check.rectangle(x, 1, 5, 5, 15, 15);
        Check.rectangle(x, 2, 0, 0, 20, 20);
        Check.corners(x, 3, 0, 0, 10, 0, 10, 10, 0, 10);
        check.due("no rule", x.cell(5, 5, 1), 0);
        x.bars(0, 0, 1, 2);
        x.bars(0, 1, 1, 2);
        check.due("two rules of one area", x.cell(5, 5, 1), 1);
        x.bars(1, 6, 2, 3);
        x.bars(3, 6, 0, 400);
        check.due("day 0", x.cell(5, 5, 0), 0);
        check.due("day 1", x.cell(5, 5, 1), 1);
        check.due("day 2", x.cell(5, 5, 2), 2);
        check.due("day 3", x.cell(5, 5, 3), 1);
        check.due("day 4", x.cell(5, 5, 4), 0);
        check.due("in the first alone", x.cell(4, 4, 2), 1);
        check.due("in the third alone", x.cell(20, 20, 2), 0);
        x.bars(2, 6, 2, 2);
        check.due("in the third, which bars now", x.cell(20, 20, 2), 1);
        check.due("in all", x.cell(10, 10, 2), 3);
        x.ring(3);
        check.due("in all four", x.cell(10, 10, 2), 4);
    }

    private static void dueEdges(Check check) {
        AreaCrossings x = new AreaCrossings(1);
        Check.rectangle(x, 0, -200, -200, 200, 200);
        x.bars(0, 0, 0, 400);
        check.due("a corner", x.cell(200, -200, 400), 1);
        int[] far = {201, -201, Integer.MIN_VALUE, Integer.MAX_VALUE};
        for (int value : far) {
            check.due("cell(" + value + ", 0)", x.cell(value, 0, 0), 0);
            check.due("cell(0, " + value + ")", x.cell(0, value, 0), 0);
        }
        long[] noDay = {-1, 401, 1L << 32, Long.MIN_VALUE, Long.MAX_VALUE};
        for (long day : noDay) {
            check.due("day " + day, x.cell(0, 0, day), 0);
        }
    }

    /** Each place in and around a ring with sides of many directions, by hand. */
    private static void dueShape(Check check) {
        String[] rows = {
            "........",
            ".#...#..",
            ".##.##..",
            ".#####..",
            ".######.",
            ".#####..",
            "........",
        };
        AreaCrossings x = new AreaCrossings(1);
        check.due("ring", Check.closed(x, 0, 1, 1, 5, 1, 6, 2, 5, 3, 5, 5, 3, 3, 1, 5), true);
        x.bars(0, 0, 0, 0);
        for (int row = 0; row < rows.length; row++) {
            for (int column = 0; column < 8; column++) {
                int y = rows.length - 1 - row;
                int want = rows[row].charAt(column) == '#' ? 1 : 0;
                check.due("cell(" + column + ", " + y + ")", x.cell(column, y, 0), want);
            }
        }
    }
}

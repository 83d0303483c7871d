/** Promise 2: corner. */
final class Promise02CornerTest {
    public static void main(String[] args) {
        Check check = new Check();
        dueThrows(check);
        dueCoordinates(check);
        dueTwelve(check);
        dueWhatIsMade(check);
        check.end();
    }

    private static void dueThrows(Check check) {
        AreaCrossings x = new AreaCrossings(2);
        int[] none = {2, 3, 12, 99, -1, -2, Integer.MIN_VALUE, Integer.MAX_VALUE};
        for (int area : none) {
            check.due("corner(" + area + ") throws", Check.cornerThrows(x, area, 0, 0), true);
            // The area is looked at first.
            check.due("corner(" + area + ", 999) throws", Check.cornerThrows(x, area, 999, 0), true);
        }
        check.due("corner(0) throws", Check.cornerThrows(x, 0, 999, 0), false);
        check.due("corner(1) throws", Check.cornerThrows(x, 1, 0, 0), false);
    }

    private static void dueCoordinates(Check check) {
        AreaCrossings x = new AreaCrossings(1);
        long[] wrong = {201, -201, 1L << 32, (1L << 32) + 5, Long.MIN_VALUE, Long.MAX_VALUE};
        for (long value : wrong) {
            check.due("corner(0, " + value + ", 0)", x.corner(0, value, 0), false);
            check.due("corner(0, 0, " + value + ")", x.corner(0, 0, value), false);
        }
        check.due("corner(0, -200, -200)", x.corner(0, -200, -200), true);
        check.due("corner(0, 200, -200)", x.corner(0, 200, -200), true);
        check.due("corner(0, 200, 200)", x.corner(0, 200, 200), true);
        check.due("corner(0, -200, 200)", x.corner(0, -200, 200), true);
        check.due("ring(0)", x.ring(0), true);
        x.bars(0, 0, 0, 0);
        check.due("cell(-200, 200)", x.cell(-200, 200, 0), 1);
    }

    private static void dueTwelve(Check check) {
        AreaCrossings x = new AreaCrossings(1);
        for (int k = 0; k < 12; k++) {
            check.due("corner " + k, x.corner(0, k, k * k), true);
        }
        check.due("corner 12", x.corner(0, 0, 144), false);
        check.due("corner 12 again", x.corner(0, 0, 144), false);
        check.due("ring(0) of twelve", x.ring(0), true);
        // (0, 100) would be in the ring if the corner that was refused belonged to it.
        x.bars(0, 0, 0, 0);
        check.due("cell(0, 100)", x.cell(0, 100, 0), 0);
        check.due("cell(6, 36)", x.cell(6, 36, 0), 1);
    }

    private static void dueWhatIsMade(Check check) {
        AreaCrossings x = new AreaCrossings(2);
        check.due("rectangle", Check.rectangle(x, 0, 0, 0, 20, 20), true);
        check.due("corner behind a closed ring", x.corner(0, 5, 5), false);
        check.due("corner of another area", x.corner(1, 5, 5), true);
        check.due("hole", x.hole(0), true);
        for (int k = 0; k < 12; k++) {
            check.due("corner " + k + " of a hole", x.corner(0, k + 4, 4), true);
        }
        check.due("corner 12 of a hole", x.corner(0, 3, 12), false);
        check.due("ring of the hole, not simple", x.ring(0), false);
        check.due("corner behind a refused hole", x.corner(0, 5, 5), false);
        check.due("hole again", x.hole(0), true);
        check.due("corner of it", x.corner(0, 5, 5), true);
    }
}

/** Promise 15: buffer. */
final class Promise15BufferTest {
    public static void main(String[] args) {
        Check check = new Check();
        dueWrong(check);
        dueNear(check);
        dueSlanted(check);
        dueHole(check);
        dueAllTracks(check);
        check.end();
    }

    private static void dueWrong(Check check) {
        AreaCrossings x = new AreaCrossings(2);
        Check.rectangle(x, 0, -200, -200, -200 + 1, -200 + 1);
        Check.path(x, 0, 200, 200, 5, -200, -200);
        int[] none = {1, 2, -1, Integer.MIN_VALUE, Integer.MAX_VALUE};
        for (int area : none) {
            check.due("buffer(" + area + ")", x.buffer(area, 5), -1);
            check.due("buffer(" + area + ", -1)", x.buffer(area, -1), -1);
        }
        long[] wrong = {-1, 401, 1L << 32, Long.MIN_VALUE, Long.MAX_VALUE};
        for (long metres : wrong) {
            check.due("buffer(0, " + metres + ")", x.buffer(0, metres), -2);
        }
        check.due("buffer(0, 0)", x.buffer(0, 0), 1);
        check.due("buffer(0, 400)", x.buffer(0, 400), 1);
    }

    private static int near(long metres, long atX, long atY) {
        AreaCrossings x = new AreaCrossings(1);
        Check.rectangle(x, 0, 0, 0, 10, 10);
        Check.path(x, 0, atX, atY);
        return x.buffer(0, metres);
    }

    private static void dueNear(Check check) {
        check.due("in it", near(0, 5, 5), 1);
        check.due("on a side", near(0, 10, 5), 1);
        check.due("on a corner", near(0, 10, 10), 1);
        check.due("beside it", near(0, 11, 5), 0);
        check.due("on a side's line", near(0, 11, 10), 0);
        check.due("5 right", near(5, 15, 5), 1);
        check.due("6 right", near(5, 16, 5), 0);
        check.due("5 left", near(5, -5, 5), 1);
        check.due("6 left", near(5, -6, 5), 0);
        check.due("5 above", near(5, 5, 15), 1);
        check.due("6 above", near(5, 5, 16), 0);
        check.due("5 below", near(5, 5, -5), 1);
        check.due("6 below", near(5, 5, -6), 0);
        check.due("3, 4 from a corner", near(5, 13, 14), 1);
        check.due("4, 4 from a corner", near(5, 14, 14), 0);
        check.due("-3, -4 from a corner", near(5, -3, -4), 1);
        check.due("-4, -4 from a corner", near(5, -4, -4), 0);
        check.due("as far as can be", near(400, 200, 200), 1);
    }

    /** A place that is 7 / sqrt 2, 4.95 units, away from the line x + y = 10. */
    private static void dueSlanted(Check check) {
        AreaCrossings x = new AreaCrossings(1);
        Check.closed(x, 0, 0, 0, 10, 0, 0, 10);
        Check.path(x, 0, 9, 8);
        check.due("5 away", x.buffer(0, 5), 1);
        check.due("4 away", x.buffer(0, 4), 0);
        AreaCrossings y = new AreaCrossings(1);
        Check.closed(y, 0, -200, -200, 200, 200, 199, 200);
        Check.path(y, 0, 200, -200);
        check.due("282.8 away: 283", y.buffer(0, 283), 1);
        check.due("282.8 away: 282", y.buffer(0, 282), 0);
        AreaCrossings z = new AreaCrossings(1);
        Check.closed(z, 0, 0, 0, 40, 30, 0, 30);
        Check.path(z, 0, 23, 11);
        check.due("exactly 5 from a slanted side", z.buffer(0, 5), 1);
        check.due("not 4", z.buffer(0, 4), 0);
    }

    private static void dueHole(Check check) {
        AreaCrossings x = new AreaCrossings(1);
        Check.rectangle(x, 0, 0, 0, 40, 40);
        Check.rectangleHole(x, 0, 10, 10, 30, 30);
        Check.path(x, 0, 20, 20, 1, 12, 20, 2, 30, 30, 3, 5, 5);
        check.due("0", x.buffer(0, 0), 2);
        check.due("1", x.buffer(0, 1), 2);
        check.due("2", x.buffer(0, 2), 3);
        check.due("9", x.buffer(0, 9), 3);
        check.due("10", x.buffer(0, 10), 4);
    }

    private static void dueAllTracks(Check check) {
        AreaCrossings x = new AreaCrossings(1);
        Check.rectangle(x, 0, 0, 0, 10, 10);
        check.due("no track", x.buffer(0, 400), 0);
        for (int i = 0; i < 6; i++) {
            Check.path(x, 0, 5, 5, 1, 5, 5, 9000, 50, 50);
            check.due("tracks, " + i, x.buffer(0, 0), 2 * (i + 1));
        }
        check.due("with those that are further away", x.buffer(0, 57), 18);
        check.due("without them", x.buffer(0, 56), 12);
    }
}

/** Promise 9: place. */
final class Promise09PlaceTest {
    public static void main(String[] args) {
        Check check = new Check();
        dueWrong(check);
        dueLater(check);
        dueThirty(check);
        check.end();
    }

    private static void dueWrong(Check check) {
        AreaCrossings x = new AreaCrossings(1);
        Check.rectangle(x, 0, -200, -200, 200, 200);
        x.track();
        int[] none = {1, -1, 6, Integer.MIN_VALUE, Integer.MAX_VALUE};
        for (int track : none) {
            check.due("place of track " + track, x.place(track, 0, 0, 0), false);
        }
        long[] wrong = {201, -201, 1L << 32, Long.MIN_VALUE, Long.MAX_VALUE};
        for (long value : wrong) {
            check.due("place at " + value, x.place(0, 0, value, 0), false);
            check.due("place at 0, " + value, x.place(0, 0, 0, value), false);
        }
        long[] noSecond = {-1, 40_000_001, 1L << 32, Long.MIN_VALUE, Long.MAX_VALUE};
        for (long second : noSecond) {
            check.due("place at second " + second, x.place(0, second, 0, 0), false);
        }
        check.due("none was taken", x.buffer(0, 400), 0);
        check.due("second 0", x.place(0, 0, -200, 200), true);
        check.due("last second", x.place(0, 40_000_000, 200, -200), true);
        check.due("two were taken", x.buffer(0, 0), 2);
    }

    private static void dueLater(Check check) {
        AreaCrossings x = new AreaCrossings(1);
        Check.rectangle(x, 0, 0, 0, 10, 10);
        x.track();
        x.track();
        check.due("first", x.place(0, 100, 1, 1), true);
        check.due("the same second", x.place(0, 100, 2, 2), false);
        check.due("an earlier one", x.place(0, 99, 2, 2), false);
        check.due("an earlier one of another track", x.place(1, 99, 2, 2), true);
        check.due("later", x.place(0, 101, 1, 1), true);
        check.due("inside", x.inside(0, 0, -1), 1000);
        check.due("pieces", x.inside(0, 0, 1), -1);
    }

    private static void dueThirty(Check check) {
        AreaCrossings x = new AreaCrossings(1);
        Check.rectangle(x, 0, 0, 0, 10, 10);
        x.track();
        x.track();
        for (int i = 0; i < 30; i++) {
            check.due("place " + i, x.place(0, i, 1, 1), true);
        }
        check.due("place 30", x.place(0, 30, 1, 1), false);
        check.due("place of the other track", x.place(1, 30, 1, 1), true);
        check.due("piece 28", x.inside(0, 0, 28), 1000);
        check.due("piece 29", x.inside(0, 0, 29), -1);
        check.due("all", x.inside(0, 0, -1), 29_000);
    }
}

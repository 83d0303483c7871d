/** Promise 16: told. */
final class Promise16ToldTest {
    public static void main(String[] args) {
        Check check = new Check();
        AreaCrossings x = new AreaCrossings(3);
        Check.rectangle(x, 0, 0, 0, 10, 10);
        Check.rectangle(x, 1, 0, 0, 10, 10);
        x.bars(0, 7, 3, 4);
        x.bars(0, 2, 6, 6);
        x.bars(2, 2, 0, 400);
        boolean[] want = {false, false, false, true, true, false, true, false};
        for (int day = 0; day < want.length; day++) {
            check.due("told(0, " + day + ")", x.told(0, day), want[day]);
            check.due("told(1, " + day + ")", x.told(1, day), false);
            check.due("told(2, " + day + ") that is not there", x.told(2, day), false);
        }
        long[] noDay = {-1, 401, (1L << 32) + 3, Long.MIN_VALUE, Long.MAX_VALUE};
        for (long day : noDay) {
            check.due("told(0, " + day + ")", x.told(0, day), false);
        }
        int[] none = {3, -1, Integer.MIN_VALUE, Integer.MAX_VALUE};
        for (int area : none) {
            check.due("told(" + area + ", 3)", x.told(area, 3), false);
        }
        Check.rectangle(x, 2, 0, 0, 10, 10);
        check.due("there now", x.told(2, 0), true);
        check.due("last day", x.told(2, 400), true);
        check.end();
    }
}

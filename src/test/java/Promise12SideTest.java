/** Promise 12: side. */
final class Promise12SideTest {
    public static void main(String[] args) {
        Check check = new Check();
        AreaCrossings x = new AreaCrossings(1);
        check.due("before a run", x.side(0), -1);
        Check.rectangle(x, 0, 0, 0, 10, 10);
        x.bars(0, 0, 0, 0);
        int t = Check.path(x, 0, -5, 5, 60, 15, 5, 120, 5, 5);
        check.due("run", x.run(t, 0), 3);
        check.due("enters", x.side(0), 1);
        check.due("leaves", x.side(1), 0);
        check.due("enters again", x.side(2), 1);
        int[] none = {3, -1, 299, 300, Integer.MIN_VALUE, Integer.MAX_VALUE};
        for (int k : none) {
            check.due("side(" + k + ")", x.side(k), -1);
        }
        check.due("run without crossings", x.run(t, 1), 0);
        check.due("none", x.side(0), -1);
        check.end();
    }
}

/** Promise 12: side. */
final class Promise12SideTest {
    public static void main(String[] args) {
        Check check = new Check("promise 12");
        dueSides(check);
        dueAlone(check);
        dueNone(check);
        dueNoneYet(check);
        check.end();
    }

    private static AreaCrossings withThree() {
        AreaCrossings x = Check.barred(0, 0, 10, 0, 10, 10, 0, 10);
        Check.path(x, 0, -5, 5, 60, 15, 5, 120, 5, 5);
        x.run(0, 0);
        return x;
    }

    private static void dueSides(Check check) {
        check.sentence("Whether CROSSING k ENTERS (1) or LEAVES (0)");
        AreaCrossings x = withThree();
        check.due("enters", x.side(0), 1);
        check.due("leaves", x.side(1), 0);
        check.due("enters again", x.side(2), 1);
    }

    private static void dueAlone(Check check) {
        check.sentence("Whether CROSSING k ENTERS (1) or LEAVES (0): at one place, it ENTERS first");
        AreaCrossings x = Check.barred(0, 0, 10, 0, 10, 10, 0, 10);
        check.due("run", x.run(Check.path(x, 0, -5, 5, 60, 5, -5), 0), 2);
        check.due("enters", x.side(0), 1);
        check.due("leaves", x.side(1), 0);
    }

    private static void dueNone(Check check) {
        check.sentence("-1 if there is none");
        AreaCrossings x = withThree();
        check.due("side(-1)", x.side(-1), -1);
        check.due("side(3)", x.side(3), -1);
        check.due("side(4)", x.side(4), -1);
        check.due("side(299)", x.side(299), -1);
        check.due("side(300)", x.side(300), -1);
        for (int k : Check.FAR_INTS) {
            check.due("side(" + k + ")", x.side(k), -1);
        }
        check.due("run with one crossing", x.run(Check.path(x, 0, -5, 5, 60, 5, 5), 0), 1);
        check.due("the first one", x.side(0), 1);
        check.due("those of the run before are gone", x.side(1), -1);
    }

    private static void dueNoneYet(Check check) {
        check.sentence("-1 if there is none: before a RUN, and behind one without CROSSINGS");
        check.due("before a run", new AreaCrossings(1).side(0), -1);
        AreaCrossings x = withThree();
        check.due("run without crossings", x.run(0, 1), 0);
        check.due("none", x.side(0), -1);
    }
}

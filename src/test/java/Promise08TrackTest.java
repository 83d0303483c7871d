/** Promise 8: track. */
final class Promise08TrackTest {
    public static void main(String[] args) {
        Check check = new Check("promise 8");
        dueNumbers(check);
        dueWithoutPlaces(check);
        dueSix(check);
        check.end();
    }

    private static void dueNumbers(Check check) {
        check.sentence("A TRACK: its number");
        AreaCrossings x = new AreaCrossings(1);
        check.due("place before there is a track", x.place(0, 0, 0, 0), false);
        for (int i = 0; i < 6; i++) {
            check.due("run before", x.run(i, 0), -1);
            check.due("track", x.track(), i);
            check.due("run", x.run(i, 0), 0);
            check.due("run of the next one", x.run(i + 1, 0), -1);
        }
    }

    private static void dueWithoutPlaces(Check check) {
        check.sentence("A TRACK without PLACES");
        AreaCrossings x = new AreaCrossings(1);
        Check.rectangle(x, 0, 0, 0, 10, 10);
        x.bars(0, 0, 0, 400);
        for (int i = 0; i < 6; i++) {
            x.track();
            check.due("no crossings", x.run(i, 0), 0);
            check.due("no pieces together", x.inside(0, i, -1), 0);
            check.due("no piece 0", x.inside(0, i, 0), -1);
            check.due("no gap", x.maybe(i, 0), false);
            check.due("no places near", x.buffer(0, 400), 2 * i);
            check.due("the first second may be its first place", x.place(i, 0, 1, 1), true);
            check.due("and another one follow", x.place(i, 1, 1, 1), true);
        }
    }

    private static void dueSix(Check check) {
        check.sentence("-4 there are six");
        AreaCrossings x = new AreaCrossings(1);
        Check.rectangle(x, 0, 0, 0, 10, 10);
        for (int i = 0; i < 6; i++) {
            check.due("track", x.track(), i);
            x.place(i, 5, 1, 1);
        }
        for (int i = 0; i < 20; i++) {
            check.due("a seventh", x.track(), -4);
        }
        check.due("place of a seventh", x.place(6, 0, 0, 0), false);
        check.due("run of a seventh", x.run(6, 0), -1);
        check.due("the places of the six", x.buffer(0, 0), 6);
        for (int i = 0; i < 6; i++) {
            check.due("track " + i + " is as it was: an earlier place", x.place(i, 5, 1, 1), false);
            check.due("a later one", x.place(i, 6, 1, 1), true);
        }
        Picture.dueUnchanged(check, "a seventh track", Promise08TrackTest::makeSix, AreaCrossings::track);
    }

    private static void makeSix(AreaCrossings x) {
        Picture.fill(x);
        for (int i = 0; i < 4; i++) {
            x.track();
        }
    }
}

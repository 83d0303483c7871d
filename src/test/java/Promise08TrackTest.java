/** Promise 8: track. */
final class Promise08TrackTest {
    public static void main(String[] args) {
        Check check = new Check();
        AreaCrossings x = new AreaCrossings(1);
        Check.rectangle(x, 0, 0, 0, 10, 10);
        check.due("place before there is a track", x.place(0, 0, 0, 0), false);
        for (int i = 0; i < 6; i++) {
            check.due("run before", x.run(i, 0), -1);
            check.due("track", x.track(), i);
            check.due("run", x.run(i, 0), 0);
            check.due("no places", x.inside(0, i, -1), 0);
            check.due("no pieces", x.inside(0, i, 0), -1);
            check.due("no places near", x.buffer(0, 400), i);
            check.due("place", x.place(i, 5, 1, 1), true);
        }
        check.due("a seventh", x.track(), -4);
        check.due("an eighth", x.track(), -4);
        check.due("place of a seventh", x.place(6, 0, 0, 0), false);
        check.due("places", x.buffer(0, 0), 6);
        check.end();
    }
}

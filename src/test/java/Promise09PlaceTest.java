/** Promise 9: place. */
final class Promise09PlaceTest {
    public static void main(String[] args) {
        Check check = new Check("promise 9");
        dueBehind(check);
        dueNoSuchTrack(check);
        dueNoCoordinate(check);
        dueNoSecond(check);
        dueNotLater(check);
        dueThirty(check);
        dueRefusedAreNone(check);
        check.end();
    }

    private static void dueBehind(Check check) {
        check.sentence("A PLACE behind those of a TRACK");
        AreaCrossings x = Check.barred(0, 0, 10, 0, 10, 10, 0, 10);
        x.track();
        x.track();
        check.due("first", x.place(0, 0, -5, 5), true);
        check.due("of the other one", x.place(1, 7, 5, 5), true);
        check.due("second", x.place(0, 60, 5, 5), true);
        check.due("third", x.place(0, 120, 15, 5), true);
        check.due("run", x.run(0, 0), 2);
        check.dueCrossings("in their order", x, "0:0+1/2 1:0-1/2");
        check.due("one place makes no piece", x.inside(0, 1, 0), -1);
    }

    private static void dueNoSuchTrack(Check check) {
        check.sentence("false if there is no such TRACK");
        AreaCrossings x = new AreaCrossings(1);
        for (int tracks = 0; tracks <= 6; tracks++) {
            check.due("behind the last", x.place(tracks, 0, 0, 0), false);
            check.due("before the first", x.place(-1, 0, 0, 0), false);
            x.track();
            check.due("the last", x.place(tracks, 0, 0, 0), tracks < 6);
        }
        for (int track : Check.FAR_INTS) {
            check.due("place of track " + track, x.place(track, 0, 0, 0), false);
        }
        Picture.dueUnchanged(check, "place of track 2", y -> y.place(2, 20_000, 0, 0));
        Picture.dueUnchanged(check, "place of track -1", y -> y.place(-1, 20_000, 0, 0));
    }

    private static void dueNoCoordinate(Check check) {
        check.sentence("false if there is no such COORDINATE");
        AreaCrossings x = new AreaCrossings(1);
        Check.rectangle(x, 0, -200, -200, 200, 200);
        x.track();
        long[] near = {201, -201, 202, -202, 256, -256};
        for (long value : near) {
            dueRefused(check, x, value);
        }
        for (long value : Check.WRAPPED) {
            dueRefused(check, x, value);
        }
        check.due("none was taken", x.buffer(0, 400), 0);
        long[][] corners = {{-200, -200}, {200, -200}, {200, 200}, {-200, 200}};
        for (int i = 0; i < corners.length; i++) {
            check.due("a corner of all places", x.place(0, i, corners[i][0], corners[i][1]), true);
            check.due("was taken", x.buffer(0, 0), i + 1);
        }
        Picture.dueUnchanged(check, "place at 201, 0", y -> y.place(0, 20_000, 201, 0));
        Picture.dueUnchanged(check, "place at 0, -201", y -> y.place(0, 20_000, 0, -201));
    }

    private static void dueRefused(Check check, AreaCrossings x, long value) {
        check.due("place at " + value + ", 0", x.place(0, 0, value, 0), false);
        check.due("place at 0, " + value, x.place(0, 0, 0, value), false);
    }

    private static void dueNoSecond(Check check) {
        check.sentence("false if there is no such SECOND");
        AreaCrossings x = new AreaCrossings(1);
        Check.rectangle(x, 0, -200, -200, 200, 200);
        x.track();
        x.track();
        long[] refused = {-1, -2, 40_000_001, 40_000_002, 1L << 32, (1L << 32) + 7, 7 - (1L << 32), Integer.MIN_VALUE,
            Integer.MAX_VALUE, Long.MIN_VALUE, Long.MIN_VALUE + 7, Long.MAX_VALUE};
        for (long second : refused) {
            check.due("first place at second " + second, x.place(0, second, 0, 0), false);
        }
        check.due("none was taken", x.buffer(0, 400), 0);
        check.due("second 0", x.place(0, 0, 0, 0), true);
        for (long second : refused) {
            check.due("later place at second " + second, x.place(0, second, 0, 0), false);
        }
        check.due("one was taken", x.buffer(0, 400), 1);
        check.due("second 39999999", x.place(0, 39_999_999, 0, 0), true);
        check.due("second 40000000", x.place(0, 40_000_000, 0, 0), true);
        check.due("second 40000001", x.place(0, 40_000_001, 0, 0), false);
        check.due("three were taken", x.buffer(0, 400), 3);
        check.due("second 40000000 as the first one", x.place(1, 40_000_000, 0, 0), true);
        Picture.dueUnchanged(check, "place at second 40000001", y -> y.place(0, 40_000_001, 0, 0));
        Picture.dueUnchanged(check, "place at second -1", AreaCrossings::track, y -> y.place(0, -1, 0, 0));
    }

    private static void dueNotLater(Check check) {
        check.sentence("false if it is not later");
        AreaCrossings x = new AreaCrossings(1);
        Check.rectangle(x, 0, 0, 0, 10, 10);
        x.track();
        x.track();
        check.due("first", x.place(0, 100, 1, 1), true);
        check.due("the same second", x.place(0, 100, 2, 2), false);
        check.due("an earlier one", x.place(0, 99, 2, 2), false);
        check.due("second 0", x.place(0, 0, 2, 2), false);
        check.due("an earlier one of another track", x.place(1, 99, 2, 2), true);
        check.due("a second later", x.place(0, 101, 1, 1), true);
        check.due("the same second, again", x.place(0, 101, 2, 2), false);
        check.due("between both", x.place(0, 100, 2, 2), false);
        check.due("inside", x.inside(0, 0, -1), 1000);
        check.due("pieces", x.inside(0, 0, 1), -1);
        Picture.dueUnchanged(check, "place at the same second", y -> y.place(0, 8010, 0, 0));
        Picture.dueUnchanged(check, "place at an earlier second", y -> y.place(0, 8009, 0, 0));
    }

    private static void makeThirty(AreaCrossings x) {
        Picture.fill(x);
        for (int i = 4; i < 30; i++) {
            x.place(0, 10_000 + i, i, i);
        }
    }

    private static void dueThirty(Check check) {
        check.sentence("false if there are 30");
        AreaCrossings x = new AreaCrossings(1);
        Check.rectangle(x, 0, 0, 0, 10, 10);
        x.track();
        x.track();
        for (int i = 0; i < 30; i++) {
            check.due("place " + i, x.place(0, i, 1, 1), true);
        }
        check.due("place 30", x.place(0, 30, 1, 1), false);
        check.due("place 30 again", x.place(0, 31, 1, 1), false);
        check.due("place of the other track", x.place(1, 30, 1, 1), true);
        check.due("places", x.buffer(0, 0), 31);
        check.due("piece 28", x.inside(0, 0, 28), 1000);
        check.due("piece 29", x.inside(0, 0, 29), -1);
        check.due("all", x.inside(0, 0, -1), 29_000);
        Picture.dueUnchanged(check, "place 30", Promise09PlaceTest::makeThirty, y -> y.place(0, 20_000, 3, 3));
    }

    private static void dueRefusedAreNone(Check check) {
        check.sentence("false if there are 30: those that were refused are not among them");
        AreaCrossings x = new AreaCrossings(1);
        x.track();
        for (int i = 0; i < 30; i++) {
            x.place(0, i, 201, 0);
            x.place(0, -1, 0, 0);
            check.due("place " + i, x.place(0, i, 0, 0), true);
            x.place(0, i, 0, 0);
        }
        check.due("place 30", x.place(0, 30, 0, 0), false);
    }
}

/** What it is: an object is used for at most 512 calls, and each of them answers as it should. */
final class CallsTest {
    private static final int MOST_CALLS = 512;
    private static final int CALLS_OF_FILL = 35;

    private interface Question {
        long ask(AreaCrossings x);
    }

    public static void main(String[] args) {
        Check check = new Check("what it is");
        dueAsTheLastCall(check);
        dueAllOfOneKind(check);
        dueFullObject(check);
        check.end();
    }

    private static long bit(boolean value) {
        return value ? 1 : 0;
    }

    /** Behind 511 others, one call more. */
    private static void dueLast(Check check, String call, long want, Question question) {
        AreaCrossings x = new AreaCrossings(3);
        Picture.fill(x);
        for (int calls = CALLS_OF_FILL; calls < MOST_CALLS - 1; calls++) {
            check.due("told, call " + calls, x.told(0, 0), true);
        }
        check.due(call + " as call 512", question.ask(x), want);
    }

    private static void dueAsTheLastCall(Check check) {
        check.sentence("An object is used for at most 512 calls: the last of them, of each kind");
        dueLast(check, "corner", 1, x -> bit(x.corner(1, 40, 40)));
        dueLast(check, "corner, throws", 1, x -> bit(Check.cornerThrows(x, 3, 40, 40)));
        dueLast(check, "ring", 0, x -> bit(x.ring(2)));
        dueLast(check, "hole", 1, x -> bit(x.hole(0)));
        dueLast(check, "bars", 1, x -> bit(x.bars(0, 0, 0, 400)));
        dueLast(check, "speed", 1, x -> bit(x.speed(0, 1)));
        dueLast(check, "report", -4, x -> x.report(100, 100, 0, 1));
        dueLast(check, "track", 2, AreaCrossings::track);
        dueLast(check, "place", 1, x -> bit(x.place(0, 9000, 0, 0)));
        dueLast(check, "run", 2, x -> x.run(1, 7));
        dueLast(check, "entry", 8, x -> x.entry(1, 2));
        dueLast(check, "side", 1, x -> x.side(0));
        dueLast(check, "inside", 15_000, x -> x.inside(0, 0, 0));
        dueLast(check, "maybe", 1, x -> bit(x.maybe(0, 0)));
        dueLast(check, "buffer", 1, x -> x.buffer(0, 0));
        dueLast(check, "told", 1, x -> bit(x.told(0, 400)));
        dueLast(check, "overlap", 0, x -> x.overlap(0, 2));
        dueLast(check, "cell", 1, x -> x.cell(0, 0, 0));
    }

    private static void dueEach(Check check, String call, long want, Question question) {
        AreaCrossings x = new AreaCrossings(3);
        Picture.fill(x);
        for (int calls = CALLS_OF_FILL; calls < MOST_CALLS; calls++) {
            check.due(call + ", call " + (calls + 1), question.ask(x), want);
        }
    }

    private static void dueAllOfOneKind(Check check) {
        check.sentence("An object is used for at most 512 calls: all of them of one kind");
        dueEach(check, "corner, throws", 1, x -> bit(Check.cornerThrows(x, 3, 0, 0)));
        dueEach(check, "corner, refused", 0, x -> bit(x.corner(0, 0, 0)));
        dueEach(check, "ring, refused", 0, x -> bit(x.ring(0)));
        dueEach(check, "ring of too few, refused", 0, x -> bit(x.ring(1)));
        dueEach(check, "hole, refused", 0, x -> bit(x.hole(2)));
        dueEach(check, "bars, refused", 0, x -> bit(x.bars(0, 0, 1, 0)));
        dueEach(check, "speed", 1, x -> bit(x.speed(0, 7)));
        dueEach(check, "report, refused", -4, x -> x.report(100, 100, 0, 1));
        dueEach(check, "place, refused", 0, x -> bit(x.place(0, 0, 0, 0)));
        dueEach(check, "run", 5, x -> x.run(0, 0));
        dueEach(check, "run, refused", -2, x -> x.run(0, 8));
        dueEach(check, "entry", 8, x -> x.entry(1, 2));
        dueEach(check, "side", 1, x -> x.side(0));
        dueEach(check, "inside", 15_000, x -> x.inside(0, 0, -1));
        dueEach(check, "maybe", 1, x -> bit(x.maybe(0, 0)));
        dueEach(check, "buffer", 1, x -> x.buffer(0, 0));
        dueEach(check, "overlap", 0, x -> x.overlap(0, 2));
        dueEach(check, "cell", 1, x -> x.cell(0, 0, 0));
    }

    /** As much as 512 calls can put in: 12 areas, 40 rules, six tracks of 30 places each; then it is asked. */
    private static void dueFullObject(Check check) {
        check.sentence("An object is used for at most 512 calls: it is as full as can be");
        AreaCrossings x = new AreaCrossings(12);
        int calls = 0;
        for (int area = 0; area < 12; area++) {
            check.due("area", Check.rectangle(x, area, -10 * area - 9, -9, 10 * area + 9, 9), true);
            calls += 5;
        }
        for (int rule = 0; rule < 40; rule++) {
            check.due("rule", x.bars(rule % 12, rule / 12, 0, 0), true);
            calls++;
        }
        for (int track = 0; track < 6; track++) {
            check.due("track", x.track(), track);
            calls++;
            for (int place = 0; place < 30; place++) {
                check.due("place", x.place(track, place, place % 2 == 0 ? -200 : 200, track), true);
                calls++;
            }
        }
        // A piece enters and leaves each area: 24 crossings with gears 0 to 2, 29 pieces are too many.
        for (; calls < MOST_CALLS; calls++) {
            int gear = calls % 5;
            check.due("run with gear " + gear, x.run(calls % 6, gear), gear < 3 ? -4 : gear == 3 ? 232 : 0);
        }
    }
}

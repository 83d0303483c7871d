/**
 * What an object answers, and how much more it takes: objects of three areas that are alike have
 * the same picture. To take it uses the object up, with some 280 calls.
 */
final class Picture {
    interface Deed {
        void on(AreaCrossings x);
    }

    private static final int AREAS = 3;
    private static final int TRACKS = 2;

    private final AreaCrossings x;
    private final StringBuilder seen = new StringBuilder();

    private Picture(AreaCrossings x) {
        this.x = x;
    }

    /** A deed behind some others leaves the object as it would be without it. */
    static void dueUnchanged(Check check, String call, Deed before, Deed refused) {
        AreaCrossings plain = new AreaCrossings(AREAS);
        before.on(plain);
        AreaCrossings tried = new AreaCrossings(AREAS);
        before.on(tried);
        refused.on(tried);
        check.due("picture behind " + call, of(tried), of(plain));
    }

    /** A deed on an object that has some of everything leaves it as it was. */
    static void dueUnchanged(Check check, String call, Deed refused) {
        dueUnchanged(check, call, Picture::fill, refused);
    }

    /** Area 0 is there with a hole, 1 has two corners, of 2 a hole is being made; a run has been done. */
    static void fill(AreaCrossings x) {
        Check.rectangle(x, 0, 0, 0, 20, 20);
        Check.rectangleHole(x, 0, 5, 5, 15, 15);
        Check.corners(x, 1, 30, 30, 40, 30);
        Check.rectangle(x, 2, -40, -40, -10, -10);
        x.hole(2);
        Check.corners(x, 2, -30, -30, -20, -30);
        x.bars(0, 0, 0, 1);
        x.bars(0, 7, 400, 400);
        x.bars(1, 0, 0, 0);
        x.bars(2, 7, 0, 0);
        x.speed(0, 50_000);
        Check.path(x, 10, -10, 10, 70, 30, 10, 8000, 22, 12, 8010, 20, 20);
        Check.path(x, 0, -50, -20, 60, 0, -20);
        x.run(0, 0);
    }

    static String of(AreaCrossings x) {
        Picture picture = new Picture(x);
        picture.seeCrossings();
        picture.seeAreas();
        picture.seeCells();
        picture.seeRuns();
        picture.seeRings();
        picture.seeRoom();
        return picture.seen.toString();
    }

    private void see(String name, long answer) {
        seen.append(' ').append(name).append(' ').append(answer);
    }

    private void see(String name, boolean answer) {
        see(name, answer ? 1 : 0);
    }

    private void seeCrossings() {
        seen.append(" [").append(Check.crossings(x)).append(']');
    }

    private void seeAreas() {
        for (int area = 0; area < AREAS; area++) {
            see("told", x.told(area, 0));
            see("told", x.told(area, 1));
            see("told", x.told(area, 400));
            see("buffer", x.buffer(area, 0));
            see("buffer", x.buffer(area, 400));
            see("overlap", x.overlap(area, (area + 1) % AREAS));
            for (int track = 0; track < TRACKS; track++) {
                see("inside", x.inside(area, track, -1));
                see("inside", x.inside(area, track, 0));
            }
        }
        for (int track = 0; track < TRACKS; track++) {
            see("maybe", x.maybe(track, 0));
        }
    }

    private void seeCells() {
        long[][] places = {{0, 0}, {3, 3}, {10, 10}, {35, 32}, {-40, -40}, {-25, -25}, {100, 100}};
        for (long[] place : places) {
            see("cell", x.cell((int) place[0], (int) place[1], 0));
        }
    }

    private void seeRuns() {
        for (int track = 0; track < TRACKS; track++) {
            see("run", x.run(track, 0));
            seeCrossings();
            see("run", x.run(track, 7));
        }
    }

    /** How many corners are taken, whether they close, and whether a hole may follow. */
    private void seeRings() {
        for (int area = 0; area < AREAS; area++) {
            int corners = 0;
            while (corners < 13 && x.corner(area, corners - 35, corners * corners - 200)) {
                corners++;
            }
            see("corners", corners);
            see("ring", x.ring(area));
            see("hole", x.hole(area));
            see("buffer", x.buffer(area, 100));
        }
    }

    private void seeRoom() {
        see("report", x.report(100, 100, 0, 1));
        int rules = 0;
        while (rules < 41 && x.bars(0, 0, 0, 0)) {
            rules++;
        }
        see("rules", rules);
        for (int track = 0; track < TRACKS; track++) {
            int places = 0;
            while (places < 31 && x.place(track, 39_999_000 + places, 0, 0)) {
                places++;
            }
            see("places", places);
        }
        see("track", x.track());
    }
}

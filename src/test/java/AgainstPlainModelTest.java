import java.util.ArrayList;
import java.util.Collections;
import java.util.Comparator;
import java.util.List;
import java.util.Random;

/** Many runs of calls, the same each time, against a plainer model of the document. */
final class AgainstPlainModelTest {
    private static final int RUNS = 600;
    private static final int SHAPED_RUNS = 300;
    private static final int MOST_CALLS = 512;
    private static final int[] ODD = {Integer.MIN_VALUE, Integer.MIN_VALUE + 1, -1, Integer.MAX_VALUE - 1, Integer.MAX_VALUE};

    private final Check check;
    private final Random random;
    private final int number;
    private final int areas;
    private final AreaCrossings x;
    private final PlainModel plain;
    private final long spread;
    // Rings of many corners that are simple, and places on their corners: chance alone makes few of these.
    private final boolean shaped;
    private final List<long[]> corners = new ArrayList<>();
    private int calls = 0;

    private AgainstPlainModelTest(Check check, int number) {
        this.check = check;
        this.number = number;
        shaped = number >= RUNS;
        random = new Random(number);
        areas = random.nextInt(5) == 0 ? random.nextInt(15) - 1 : 1 + random.nextInt(4);
        // Close places, so that sides often touch and lie along pieces; now and then all that there are.
        spread = new long[] {3, 5, 8, 12, 200}[random.nextInt(5)];
        x = new AreaCrossings(areas);
        plain = new PlainModel(areas);
    }

    public static void main(String[] args) {
        Check check = new Check("the document as a whole");
        for (int number = 0; number < RUNS + SHAPED_RUNS; number++) {
            new AgainstPlainModelTest(check, number).go();
        }
        check.end();
    }

    private void go() {
        while (calls < MOST_CALLS - 40) {
            int kind = random.nextInt(24);
            if (kind < 4) {
                makeRing();
            } else if (kind < 8) {
                extendTrack();
            } else if (kind < 11) {
                same("run", t -> x.run((int) t[0], (int) t[1]), t -> plain.run((int) t[0], (int) t[1]), track(), gear());
                readCrossings();
            } else {
                oneCall(kind);
            }
        }
    }

    private interface Call {
        long answer(long[] arguments);
    }

    private void same(String name, Call program, Call model, long... arguments) {
        calls++;
        StringBuilder call = new StringBuilder("run " + number + ", call " + calls + ": " + name);
        for (long argument : arguments) {
            call.append(' ').append(argument);
        }
        check.due(call.toString(), program.answer(arguments), model.answer(arguments));
    }

    private static long bit(boolean value) {
        return value ? 1 : 0;
    }

    /** Now and then a number that is far off. */
    private boolean isOdd() {
        return random.nextInt(150) == 0;
    }

    private int farOff() {
        return ODD[random.nextInt(ODD.length)];
    }

    private int area() {
        return isOdd() ? farOff() : random.nextInt(30) == 0 ? random.nextInt(16) - 2 : random.nextInt(Math.max(1, Math.min(12, areas)));
    }

    private int track() {
        return isOdd() ? farOff() : random.nextInt(30) == 0 ? random.nextInt(9) - 1 : random.nextInt(3);
    }

    private int gear() {
        return isOdd() ? farOff() : random.nextInt(30) == 0 ? random.nextInt(11) - 2 : random.nextInt(2);
    }

    private int day() {
        return isOdd() ? farOff() : random.nextInt(30) == 0 ? random.nextInt(420) - 10 : random.nextInt(3);
    }

    private long coordinate() {
        return random.nextInt(600) == 0 ? (long) farOff() << random.nextInt(33) : random.nextInt(300) == 0 ? random.nextInt(440) - 220 : random.nextInt((int) (2 * spread + 1)) - spread;
    }

    private void corner(int area, long atX, long atY) {
        same("corner", t -> programCorner((int) t[0], t[1], t[2]), t -> plain.corner((int) t[0], t[1], t[2]), area, atX, atY);
    }

    private int programCorner(int area, long atX, long atY) {
        try {
            return x.corner(area, atX, atY) ? 1 : 0;
        } catch (ArrayIndexOutOfBoundsException e) {
            return 2;
        }
    }

    private void makeRing() {
        int area = area();
        if (random.nextBoolean()) {
            same("hole", t -> bit(x.hole((int) t[0])), t -> bit(plain.hole((int) t[0])), area);
        }
        if (shaped && random.nextInt(4) > 0) {
            makeStar(area);
        } else if (random.nextBoolean()) {
            makeRectangle(area);
        } else {
            for (int i = random.nextInt(5) == 0 ? 14 : 2 + random.nextInt(5); i > 0; i--) {
                corner(area, coordinate(), coordinate());
            }
        }
        if (random.nextInt(10) > 0) {
            same("ring", t -> bit(x.ring((int) t[0])), t -> bit(plain.ring((int) t[0])), area);
        }
    }

    private void makeRectangle(int area) {
        long left = coordinate();
        long bottom = coordinate();
        long right = random.nextInt(3) == 0 ? left + 1 : coordinate();
        long top = random.nextInt(3) == 0 ? bottom + 1 : coordinate();
        corner(area, left, bottom);
        corner(area, right, bottom);
        corner(area, right, top);
        corner(area, left, top);
    }

    /** Corners around a place, in the order of their directions from it: often a simple ring. */
    private void makeStar(int area) {
        long middleX = coordinate();
        long middleY = coordinate();
        int reach = 1 + random.nextInt((int) spread);
        List<long[]> star = new ArrayList<>();
        for (int i = 3 + random.nextInt(10); i > 0; i--) {
            star.add(new long[] {middleX + random.nextInt(2 * reach + 1) - reach, middleY + random.nextInt(2 * reach + 1) - reach});
        }
        star.sort(Comparator.comparingDouble(c -> StrictMath.atan2(c[1] - middleY, c[0] - middleX)));
        Collections.rotate(star, random.nextInt(star.size()));
        if (random.nextBoolean()) {
            Collections.reverse(star);
        }
        for (long[] corner : star) {
            corner(area, corner[0], corner[1]);
        }
        corners.addAll(star);
    }

    private long[] somewhere() {
        if (!corners.isEmpty() && random.nextBoolean()) {
            return corners.get(random.nextInt(corners.size()));
        }
        return new long[] {coordinate(), coordinate()};
    }

    private void extendTrack() {
        int track = track();
        if (random.nextInt(3) == 0) {
            same("track", t -> x.track(), t -> plain.track());
        }
        long second = calls * 4000L * (random.nextInt(20) == 0 ? 10_000 : random.nextInt(5) == 0 ? 50 : 1);
        for (int i = random.nextInt(6); i > 0; i--) {
            second += random.nextInt(4) == 0 ? 3598 + random.nextInt(5) : random.nextInt(4) == 0 ? 7201 : 1 + random.nextInt(90);
            long[] at = somewhere();
            same("place", t -> bit(x.place((int) t[0], t[1], t[2], t[3])),
                t -> bit(plain.place((int) t[0], t[1], t[2], t[3])), track, second, at[0], at[1]);
        }
    }

    private void readCrossings() {
        int from = random.nextInt(10) == 0 ? -1 : 0;
        for (int k = from; k < from + 4 && calls < MOST_CALLS - 60; k++) {
            for (int part = 0; part < (k == from ? 5 : 4); part++) {
                same("entry", t -> x.entry((int) t[0], (int) t[1]), t -> plain.entry((int) t[0], (int) t[1]), k, part);
            }
            same("side", t -> x.side((int) t[0]), t -> plain.side((int) t[0]), k);
        }
    }

    private void oneCall(int kind) {
        switch (kind) {
            case 11, 12 -> {
                int from = day();
                same("bars", t -> bit(x.bars((int) t[0], (int) t[1], (int) t[2], (int) t[3])),
                    t -> bit(plain.bars((int) t[0], (int) t[1], (int) t[2], (int) t[3])),
                    area(), gear(), from, from + random.nextInt(4) * 100 - random.nextInt(2));
            }
            case 13 -> same("speed", t -> bit(x.speed((int) t[0], t[1])), t -> bit(plain.speed((int) t[0], t[1])),
                area(), random.nextInt(3) == 0 ? random.nextInt(100_010) - 3 : random.nextInt(4) * 900);
            case 14 -> same("report", t -> x.report(t[0], t[1], t[2], (int) t[3]),
                t -> plain.report(t[0], t[1], t[2], (int) t[3]), coordinate(), coordinate(), day(), random.nextInt(23) - 1);
            case 15, 16, 17, 18 -> same("inside", t -> x.inside((int) t[0], (int) t[1], (int) t[2]),
                t -> plain.inside((int) t[0], (int) t[1], (int) t[2]), area(), track(), random.nextInt(32) - 2);
            case 19 -> same("maybe", t -> bit(x.maybe((int) t[0], (int) t[1])),
                t -> bit(plain.maybe((int) t[0], (int) t[1])), track(), random.nextInt(5) - 1);
            case 20 -> same("buffer", t -> x.buffer((int) t[0], t[1]), t -> plain.buffer((int) t[0], t[1]),
                area(), random.nextInt(10) == 0 ? random.nextInt(420) - 10 : random.nextInt(6));
            case 21 -> same("told", t -> bit(x.told((int) t[0], t[1])), t -> bit(plain.told((int) t[0], t[1])), area(), day());
            case 22 -> same("overlap", t -> x.overlap((int) t[0], (int) t[1]),
                t -> plain.overlap((int) t[0], (int) t[1]), area(), area());
            default -> same("cell", t -> x.cell((int) t[0], (int) t[1], t[2]),
                t -> plain.cell((int) t[0], (int) t[1], t[2]), (int) coordinate(), (int) coordinate(), day());
        }
    }
}

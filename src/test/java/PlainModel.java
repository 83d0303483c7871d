import java.util.ArrayList;
import java.util.List;
import java.util.TreeSet;

/**
 * The document's words once more, as plainly as can be and by other ways than the class: places
 * and sides are made of fractions of any size, and a crossing is looked for at each cut by itself.
 */
final class PlainModel {
    record Place(Fraction x, Fraction y) {
        static Place of(long x, long y) {
            return new Place(Fraction.of(x), Fraction.of(y));
        }
    }

    record Side(Place from, Place to) {
        Place at(Fraction share) {
            return new Place(between(from.x, to.x, share), between(from.y, to.y, share));
        }

        private static Fraction between(Fraction a, Fraction b, Fraction share) {
            return a.plus(b.minus(a).times(share));
        }
    }

    record Rule(int area, int gear, int from, int to) { }

    record Stop(long second, Place place) { }

    record Crossing(int piece, Fraction share, int area, boolean enters) { }

    static final class Zone {
        final List<List<Place>> rings = new ArrayList<>();
        List<Place> made = new ArrayList<>();
        long speed = 0;

        boolean there() {
            return !rings.isEmpty();
        }
    }

    private final List<Zone> zones = new ArrayList<>();
    private final List<Rule> rules = new ArrayList<>();
    private final List<List<Stop>> tracks = new ArrayList<>();
    private List<Crossing> crossings = new ArrayList<>();

    PlainModel(int areas) {
        int many = areas < 1 ? 1 : areas > 12 ? 12 : areas;
        for (int i = 0; i < many; i++) {
            zones.add(new Zone());
        }
    }

    private static boolean fits(long x, long y) {
        return -200 <= x && x <= 200 && -200 <= y && y <= 200;
    }

    private Zone zone(int area) {
        return area >= 0 && area < zones.size() ? zones.get(area) : null;
    }

    private Zone zoneThere(int area) {
        Zone zone = zone(area);
        return zone != null && zone.there() ? zone : null;
    }

    private List<Stop> stops(int track) {
        return track >= 0 && track < tracks.size() ? tracks.get(track) : null;
    }

    /** 2 stands for the exception. */
    int corner(int area, long x, long y) {
        Zone zone = zone(area);
        if (zone == null) {
            return 2;
        }
        if (zone.made == null || zone.made.size() == 12 || !fits(x, y)) {
            return 0;
        }
        zone.made.add(Place.of(x, y));
        return 1;
    }

    boolean ring(int area) {
        Zone zone = zone(area);
        if (zone == null || zone.made == null) {
            return false;
        }
        List<Place> made = zone.made;
        boolean fine = simple(made);
        if (zone.there()) {
            for (List<Place> other : zone.rings) {
                fine = fine && !meet(made, other);
            }
            fine = fine && in(zone, made.get(0));
        }
        if (fine) {
            zone.rings.add(made);
        }
        zone.made = zone.there() ? null : new ArrayList<>();
        return fine;
    }

    boolean hole(int area) {
        Zone zone = zoneThere(area);
        if (zone == null || zone.rings.size() == 4 || zone.made != null) {
            return false;
        }
        zone.made = new ArrayList<>();
        return true;
    }

    boolean bars(int area, int gear, int from, int to) {
        if (zone(area) == null || gear < 0 || gear > 7 || from < 0 || to > 400 || from > to || rules.size() == 40) {
            return false;
        }
        return rules.add(new Rule(area, gear, from, to));
    }

    boolean speed(int area, long least) {
        if (zone(area) == null || least < 0 || least > 100_000) {
            return false;
        }
        zone(area).speed = least;
        return true;
    }

    int report(long x, long y, long day, int size) {
        if (!fits(x, y) || day < 0 || day > 398 || size < 1 || size > 20) {
            return -1;
        }
        if (!fits(x - size, y - size) || !fits(x + size, y + size)) {
            return -1;
        }
        for (int area = 0; area < zones.size(); area++) {
            Zone zone = zones.get(area);
            if (!zone.there() && zone.made.isEmpty() && rules.size() <= 32) {
                zone.made = null;
                zone.rings.add(List.of(Place.of(x - size, y - size), Place.of(x - size, y + size),
                    Place.of(x + size, y + size), Place.of(x + size, y - size)));
                for (int gear = 0; gear < 8; gear++) {
                    rules.add(new Rule(area, gear, (int) day, (int) day + 2));
                }
                return area;
            }
        }
        return -4;
    }

    int track() {
        if (tracks.size() == 6) {
            return -4;
        }
        tracks.add(new ArrayList<>());
        return tracks.size() - 1;
    }

    boolean place(int track, long second, long x, long y) {
        List<Stop> stops = stops(track);
        if (stops == null || !fits(x, y) || second < 0 || second > 40_000_000 || stops.size() == 30) {
            return false;
        }
        if (!stops.isEmpty() && second <= stops.get(stops.size() - 1).second) {
            return false;
        }
        return stops.add(new Stop(second, Place.of(x, y)));
    }

    int run(int track, int gear) {
        List<Stop> stops = stops(track);
        if (stops == null) {
            return -1;
        }
        if (gear < 0 || gear > 7) {
            return -2;
        }
        List<Crossing> found = new ArrayList<>();
        for (int piece = 0; piece + 1 < stops.size(); piece++) {
            for (int area = 0; area < zones.size(); area++) {
                if (counts(area, gear, stops, piece)) {
                    cross(found, area, stops, piece, counts(area, gear, stops, piece - 1));
                }
            }
        }
        if (found.size() > 300) {
            return -4;
        }
        crossings = found;
        return found.size();
    }

    long entry(int k, int part) {
        if (k < 0 || k >= crossings.size()) {
            return -1;
        }
        Crossing crossing = crossings.get(k);
        return part == 0 ? crossing.piece
            : part == 1 ? crossing.share.over().longValueExact()
            : part == 2 ? crossing.share.under().longValueExact()
            : part == 3 ? crossing.area : -2;
    }

    int side(int k) {
        return k < 0 || k >= crossings.size() ? -1 : crossings.get(k).enters ? 1 : 0;
    }

    long inside(int area, int track, int part) {
        Zone zone = zoneThere(area);
        List<Stop> stops = stops(track);
        if (zone == null || stops == null || part < -1 || part >= 0 && part > stops.size() - 2) {
            return -1;
        }
        long sum = 0;
        for (int piece = 0; piece + 1 < stops.size(); piece++) {
            if (part == -1 || part == piece) {
                sum += thousandths(zone, stops, piece);
            }
        }
        return sum;
    }

    boolean maybe(int track, int gap) {
        List<Stop> stops = stops(track);
        int seen = 0;
        for (int piece = 0; stops != null && piece + 1 < stops.size(); piece++) {
            long length = stops.get(piece + 1).second - stops.get(piece).second;
            if (length > 3600 && seen++ == gap) {
                return nearAny(piece(stops, piece), length / 3600 + (length % 3600 == 0 ? 0 : 1));
            }
        }
        return false;
    }

    int buffer(int area, long metres) {
        Zone zone = zoneThere(area);
        if (zone == null) {
            return -1;
        }
        if (metres < 0 || metres > 400) {
            return -2;
        }
        int near = 0;
        for (List<Stop> stops : tracks) {
            for (Stop stop : stops) {
                boolean counted = in(zone, stop.place);
                for (List<Place> ring : zone.rings) {
                    for (Side side : sides(ring)) {
                        counted = counted || squareDistance(side, stop.place).compareTo(Fraction.of(metres * metres)) <= 0;
                    }
                }
                near += counted ? 1 : 0;
            }
        }
        return near;
    }

    boolean told(int area, long day) {
        boolean barred = false;
        for (Rule rule : rules) {
            barred = barred || rule.area == area && rule.from <= day && day <= rule.to;
        }
        return barred && zoneThere(area) != null;
    }

    int overlap(int areaA, int areaB) {
        Zone a = zoneThere(areaA);
        Zone b = zoneThere(areaB);
        if (a == null || b == null || a == b) {
            return -1;
        }
        List<Place> first = a.rings.get(0);
        List<Place> other = b.rings.get(0);
        if (meet(first, other)) {
            return 1;
        }
        return within(other, first.get(1)) ? 2 : within(first, other.get(1)) ? 3 : 0;
    }

    int cell(int x, int y, long day) {
        int many = 0;
        for (int area = 0; area < zones.size(); area++) {
            many += told(area, day) && in(zones.get(area), Place.of(x, y)) ? 1 : 0;
        }
        return many;
    }

    private static List<Side> sides(List<Place> ring) {
        List<Side> sides = new ArrayList<>();
        for (int i = 0; i < ring.size(); i++) {
            sides.add(new Side(ring.get(i), ring.get((i + 1) % ring.size())));
        }
        return sides;
    }

    private static Fraction cross(Place a, Place b, Place c) {
        return b.x.minus(a.x).times(c.y.minus(a.y)).minus(b.y.minus(a.y).times(c.x.minus(a.x)));
    }

    private static Fraction dot(Place a, Place b, Place c) {
        return b.x.minus(a.x).times(c.x.minus(a.x)).plus(b.y.minus(a.y).times(c.y.minus(a.y)));
    }

    private static boolean on(Side side, Place place) {
        return cross(side.from, side.to, place).sign() == 0 && dot(place, side.from, side.to).sign() <= 0;
    }

    /** The places that two sides have in common, or the ends of the stretch that they have in common. */
    private static List<Place> common(Side a, Side b) {
        List<Place> places = new ArrayList<>();
        for (Place end : List.of(a.from, a.to, b.from, b.to)) {
            if (on(a, end) && on(b, end) && !places.contains(end)) {
                places.add(end);
            }
        }
        Fraction before = cross(b.from, b.to, a.from);
        Fraction behind = cross(b.from, b.to, a.to);
        if (places.isEmpty() && before.sign() != behind.sign()) {
            Place met = a.at(before.by(before.minus(behind)));
            if (on(b, met)) {
                places.add(met);
            }
        }
        return places;
    }

    private static boolean simple(List<Place> ring) {
        List<Side> sides = sides(ring);
        boolean fine = ring.size() >= 3 && ring.stream().distinct().count() == ring.size();
        for (int i = 0; fine && i < sides.size(); i++) {
            for (int j = 0; j < i; j++) {
                List<Place> common = common(sides.get(i), sides.get(j));
                boolean neighbours = i == j + 1 || i - j == sides.size() - 1;
                fine = fine && common.size() == (neighbours ? 1 : 0);
            }
        }
        return fine;
    }

    private static boolean meet(List<Place> a, List<Place> b) {
        for (Side side : sides(a)) {
            for (Side other : sides(b)) {
                if (!common(side, other).isEmpty()) {
                    return true;
                }
            }
        }
        return false;
    }

    /** How often the ring goes around the place tells; a place on it is not within it. */
    private static boolean within(List<Place> ring, Place place) {
        int turns = 0;
        for (Side side : sides(ring)) {
            if (on(side, place)) {
                return false;
            }
            boolean left = side.from.x.compareTo(place.x) <= 0;
            boolean endsLeft = side.to.x.compareTo(place.x) <= 0;
            int turn = cross(side.from, side.to, place).sign();
            if (left && !endsLeft && turn > 0) {
                turns++;
            } else if (!left && endsLeft && turn < 0) {
                turns--;
            }
        }
        return turns != 0;
    }

    private static boolean in(Zone zone, Place place) {
        boolean in = within(zone.rings.get(0), place);
        for (Side side : sides(zone.rings.get(0))) {
            in = in || on(side, place);
        }
        for (List<Place> hole : zone.rings.subList(1, zone.rings.size())) {
            in = in && !within(hole, place);
        }
        return in;
    }

    private static Side piece(List<Stop> stops, int piece) {
        return new Side(stops.get(piece).place, stops.get(piece + 1).place);
    }

    private boolean counts(int area, int gear, List<Stop> stops, int piece) {
        if (piece < 0 || !zones.get(area).there()) {
            return false;
        }
        long first = stops.get(piece).second;
        long length = stops.get(piece + 1).second - first;
        boolean barred = false;
        for (Rule rule : rules) {
            barred = barred || rule.area == area && rule.gear == gear
                && rule.from * 86_400L <= first && first < (rule.to + 1) * 86_400L;
        }
        Side side = piece(stops, piece);
        Fraction square = dot(side.from, side.to, side.to);
        Fraction least = Fraction.of(zones.get(area).speed * length).by(Fraction.of(3600));
        boolean fast = zones.get(area).speed > 0 && square.compareTo(least.times(least)) >= 0;
        return barred && length <= 3600 && !fast;
    }

    /** 0, 1 and each share of a piece at which it meets a side. */
    private static List<Fraction> cuts(Zone zone, Side piece) {
        TreeSet<Fraction> cuts = new TreeSet<>(List.of(Fraction.ZERO, Fraction.ONE));
        Fraction square = dot(piece.from, piece.to, piece.to);
        for (List<Place> ring : zone.rings) {
            for (Side side : sides(ring)) {
                for (Place place : common(piece, side)) {
                    if (square.sign() > 0) {
                        cuts.add(dot(piece.from, piece.to, place).by(square));
                    }
                }
            }
        }
        return new ArrayList<>(cuts);
    }

    private static boolean inBetween(Zone zone, Side piece, Fraction a, Fraction b) {
        return in(zone, piece.at(a.plus(b).by(Fraction.of(2))));
    }

    private void cross(List<Crossing> found, int area, List<Stop> stops, int piece, boolean countedBefore) {
        Zone zone = zones.get(area);
        Side side = piece(stops, piece);
        List<Fraction> cuts = cuts(zone, side);
        for (int i = 0; i < cuts.size(); i++) {
            Fraction here = cuts.get(i);
            if (!in(zone, side.at(here))) {
                continue;
            }
            boolean before = i == 0 ? countedBefore : inBetween(zone, side, cuts.get(i - 1), here);
            boolean behind = i == cuts.size() - 1 || inBetween(zone, side, here, cuts.get(i + 1));
            if (!before) {
                found.add(new Crossing(piece, here, area, true));
            }
            if (!behind) {
                found.add(new Crossing(piece, here, area, false));
            }
        }
    }

    private static long thousandths(Zone zone, List<Stop> stops, int piece) {
        long length = stops.get(piece + 1).second - stops.get(piece).second;
        if (length > 3600) {
            return 0;
        }
        Side side = piece(stops, piece);
        List<Fraction> cuts = cuts(zone, side);
        long sum = 0;
        Fraction stretch = Fraction.ZERO;
        for (int i = 1; i < cuts.size(); i++) {
            boolean in = inBetween(zone, side, cuts.get(i - 1), cuts.get(i));
            stretch = in ? stretch.plus(cuts.get(i).minus(cuts.get(i - 1))) : stretch;
            if (!in || i == cuts.size() - 1) {
                Fraction whole = stretch.times(Fraction.of(length * 1000));
                sum += whole.over().divide(whole.under()).longValueExact();
                stretch = Fraction.ZERO;
            }
        }
        return sum;
    }

    private static Fraction squareDistance(Side side, Place place) {
        Fraction share = dot(side.from, side.to, place).by(dot(side.from, side.to, side.to));
        Fraction held = share.sign() < 0 ? Fraction.ZERO : share.compareTo(Fraction.ONE) > 0 ? Fraction.ONE : share;
        Place nearest = side.at(held);
        return dot(place, nearest, nearest);
    }

    private boolean nearAny(Side piece, long wider) {
        for (Zone zone : zones) {
            if (zone.there()) {
                List<Fraction> xs = new ArrayList<>();
                List<Fraction> ys = new ArrayList<>();
                for (Place corner : zone.rings.get(0)) {
                    xs.add(corner.x);
                    ys.add(corner.y);
                }
                if (near(xs, piece.from.x, piece.to.x, wider) && near(ys, piece.from.y, piece.to.y, wider)) {
                    return true;
                }
            }
        }
        return false;
    }

    private static boolean near(List<Fraction> values, Fraction a, Fraction b, long wider) {
        TreeSet<Fraction> area = new TreeSet<>(values);
        TreeSet<Fraction> gap = new TreeSet<>(List.of(a, b));
        return area.first().compareTo(gap.last().plus(Fraction.of(wider))) <= 0
            && gap.first().minus(Fraction.of(wider)).compareTo(area.last()) <= 0;
    }
}

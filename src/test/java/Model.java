import java.math.BigInteger;
import java.util.ArrayDeque;
import java.util.ArrayList;
import java.util.Arrays;
import java.util.Comparator;
import java.util.Deque;
import java.util.List;
import java.util.function.IntPredicate;
import java.util.regex.Matcher;
import java.util.regex.Pattern;

/**
 * The document once more, in another way: it lists all ways, all seatings, all cases of the odds, and keeps whole
 * copies of what was.
 */
final class Model {
    private static final int BAD = -1, STATE = -2, FULL = -3, NONE = -9, NO = -1000000;
    private static final Pattern TOKEN = Pattern.compile(" *([a-z]+|[0-9]+|[^ ])", Pattern.DOTALL);
    private static final Pattern NUMBER = Pattern.compile("0|[1-9][0-9]?");

    private record Lane(int a, int b, int width) {
        int other(int place) {
            return place == a ? b : place == b ? a : -1;
        }
    }

    private record Measure(int p, int m) {
    }

    private static final class World {
        final List<Integer> elbow = new ArrayList<>();
        final List<Integer> at = new ArrayList<>();
        final List<Integer> gave = new ArrayList<>();
        final List<Boolean> closed = new ArrayList<>();

        World copy() {
            World w = new World();
            w.elbow.addAll(elbow);
            w.at.addAll(at);
            w.gave.addAll(gave);
            w.closed.addAll(closed);
            return w;
        }
    }

    /** A World and what may be UNDONE from it on. */
    private record Image(World world, List<World> past) {
    }

    private final StringBuilder text = new StringBuilder();
    private int places = 2;
    private int body = 4;
    private int error = 1;
    private List<Lane> lanes = new ArrayList<>();
    private World world = new World();
    private Deque<World> past = new ArrayDeque<>();
    private final List<Measure> measures = new ArrayList<>();
    private final Image[] images = new Image[2];
    private long trace = 0;

    // ---- the capital

    int type(int c) {
        if (c < 0 || c > 255) {
            return BAD;
        }
        if (text.length() == 150) {
            return FULL;
        }
        text.append((char) c);
        return text.length();
    }

    int clear() {
        int had = text.length();
        text.setLength(0);
        return had;
    }

    int capital() {
        List<String> tokens = new ArrayList<>();
        List<Integer> starts = new ArrayList<>();
        Matcher m = TOKEN.matcher(text);
        while (m.find()) {
            tokens.add(m.group(1));
            starts.add(m.start(1));
        }
        starts.add(text.length());
        int newPlaces = 2;
        int newBody = 4;
        int newError = 1;
        String seen = "";
        List<Lane> newLanes = new ArrayList<>();
        World fresh = new World();
        int k = 0;
        while (k < tokens.size()) {
            String name = tokens.get(k);
            int[][] ranges = ranges(name, seen, newPlaces);
            if (ranges == null) {
                return -10 - starts.get(k);
            }
            int[] numbers = new int[ranges.length];
            for (int j = 0; j < ranges.length; j++) {
                k++;
                if (k == tokens.size() || !NUMBER.matcher(tokens.get(k)).matches()) {
                    return -10 - starts.get(k);
                }
                numbers[j] = Integer.parseInt(tokens.get(k));
                boolean isBothEnds = name.equals("l") && j == 1 && numbers[1] == numbers[0];
                if (numbers[j] < ranges[j][0] || numbers[j] > ranges[j][1] || isBothEnds) {
                    return -10 - starts.get(k);
                }
            }
            k++;
            if (k == tokens.size() || !tokens.get(k).equals(";")) {
                return -10 - starts.get(k);
            }
            k++;
            seen += name;
            switch (name) {
                case "n" -> newPlaces = numbers[0];
                case "b" -> newBody = numbers[0];
                case "e" -> newError = numbers[0];
                case "l" -> {
                    newLanes.add(new Lane(numbers[0], numbers[1], numbers[2]));
                    fresh.closed.add(false);
                }
                default -> {
                    fresh.elbow.add(numbers[0]);
                    fresh.at.add(numbers[1]);
                    fresh.gave.add(0);
                }
            }
        }
        places = newPlaces;
        body = newBody;
        error = newError;
        lanes = newLanes;
        world = fresh;
        past.clear();
        measures.clear();
        Arrays.fill(images, null);
        text.setLength(0);
        return seen.length();
    }

    /** Between what the NUMBERS of an ITEM may be; null: it can't stand there. */
    private static int[][] ranges(String name, String seen, int places) {
        int[] place = {0, places - 1};
        switch (name) {
            case "n":
                return seen.isEmpty() ? new int[][] {{2, 8}} : null;
            case "l":
                return often(seen, 'l') < 8 ? new int[][] {place, place, {1, 40}} : null;
            case "p":
                return often(seen, 'p') < 5 ? new int[][] {{0, 9}, place} : null;
            case "b":
                return often(seen, 'b') < 1 ? new int[][] {{1, 9}} : null;
            case "e":
                return often(seen, 'e') < 1 ? new int[][] {{0, 3}} : null;
            default:
                return null;
        }
    }

    private static long often(String seen, char c) {
        return seen.chars().filter(d -> d == c).count();
    }

    int lane(int l, int what) {
        if (!isLane(l) || what < 0 || what > 3) {
            return BAD;
        }
        Lane lane = lanes.get(l);
        return List.of(lane.a, lane.b, lane.width, world.closed.get(l) ? 1 : 0).get(what);
    }

    int person(int p, int what) {
        if (!isPerson(p) || what < 0 || what > 4) {
            return BAD;
        }
        int reach = 0;
        for (int to = 0; to < places; to++) {
            reach |= way(p, to, -1) == NONE ? 0 : 1 << to;
        }
        return List.of(world.elbow.get(p), world.at.get(p), wide(p), world.gave.get(p), reach).get(what);
    }

    // ---- what is done

    int goes(int p, int l) {
        if (!isPerson(p) || !isLane(l)) {
            return BAD;
        }
        int to = lanes.get(l).other(world.at.get(p));
        if (to == -1 || world.closed.get(l) || wide(p) > lanes.get(l).width) {
            return STATE;
        }
        done();
        world.at.set(p, to);
        return to;
    }

    int meets(int p, int q, int l) {
        int comes = meeting(p, q, l);
        if (comes == BAD) {
            return BAD;
        }
        int ofP = lanes.get(l).other(world.at.get(p));
        int ofQ = lanes.get(l).other(world.at.get(q));
        if (comes == 4 || comes == 5 || ofP == -1 || ofQ == -1 || ofP == ofQ) {
            return STATE;
        }
        done();
        if (comes == 0 || comes == 1) {
            world.at.set(p, ofP);
        }
        if (comes == 0 || comes == 2) {
            world.at.set(q, ofQ);
        }
        if (comes == 1) {
            world.gave.set(q, world.gave.get(q) + 1);
        }
        if (comes == 2) {
            world.gave.set(p, world.gave.get(p) + 1);
        }
        if (comes == 3) {
            world.closed.set(l, true);
        }
        return comes;
    }

    int claims(int p, int q) {
        if (!isPerson(p) || !isPerson(q) || p == q) {
            return BAD;
        }
        int his = world.elbow.get(p);
        int others = world.elbow.get(q);
        if (!world.at.get(p).equals(world.at.get(q)) || his <= others || his == 9 || others == 0) {
            return STATE;
        }
        done();
        world.elbow.set(p, his + 1);
        world.elbow.set(q, others - 1);
        return his + 1;
    }

    int patents(int p, int e) {
        if (!isPerson(p) || e < 0 || e > 9) {
            return BAD;
        }
        if (world.elbow.get(p) == e) {
            return STATE;
        }
        done();
        return world.elbow.set(p, e);
    }

    int shuts(int l, int is) {
        if (!isLane(l) || (is != 0 && is != 1)) {
            return BAD;
        }
        if (world.closed.get(l) == (is == 1)) {
            return STATE;
        }
        done();
        world.closed.set(l, is == 1);
        return closed();
    }

    int undo() {
        if (past.isEmpty()) {
            return STATE;
        }
        world = past.removeLast();
        return past.size();
    }

    int now(int what) {
        switch (what) {
            case 0:
                return bits(lanes.size(), l -> world.closed.get(l));
            case 1:
                return world.gave.stream().mapToInt(i -> i).sum();
            case 2:
                return world.elbow.stream().mapToInt(i -> i).sum();
            case 3:
                return bits(world.at.size(), p -> (fits(p) & 1 << world.elbow.get(p)) == 0);
            default:
                return BAD;
        }
    }

    private void done() {
        past.addLast(world.copy());
        if (past.size() > 10) {
            past.removeFirst();
        }
    }

    // ---- ways

    int way(int p, int to, int i) {
        if (!isPerson(p) || !isPlace(to) || i < -1) {
            return BAD;
        }
        List<Integer> best = null;
        for (List<Integer> way : waysFor(p, to)) {
            // They come in the order of their LANES: the first of the shortest ones stays.
            if (best == null || way.size() < best.size()) {
                best = way;
            }
        }
        if (best == null) {
            return NONE;
        }
        return i == -1 ? best.size() : i < best.size() ? best.get(i) : NONE;
    }

    int lacks(int p, int to) {
        if (!isPerson(p) || !isPlace(to)) {
            return BAD;
        }
        return allWays(world.at.get(p), to, l -> !world.closed.get(l)).stream()
                .mapToInt(way -> way.stream().mapToInt(l -> Math.max(0, wide(p) - lanes.get(l).width)).sum())
                .min().orElse(NONE);
    }

    int must(int p, int to) {
        if (!isPerson(p) || !isPlace(to)) {
            return BAD;
        }
        List<List<Integer>> ways = waysFor(p, to);
        return ways.isEmpty() ? 0 : bits(lanes.size(), l -> ways.stream().allMatch(way -> way.contains(l)));
    }

    int odds(int p, int to, int x, int what) {
        if (!isPerson(p) || !isPlace(to) || x < 0 || x > 10 || what < 0 || what > 1) {
            return BAD;
        }
        List<List<Integer>> ways = waysFor(p, to);
        BigInteger upper = BigInteger.ZERO;
        BigInteger lower = BigInteger.TEN.pow(lanes.size());
        for (int shut = 0; shut < 1 << lanes.size(); shut++) {
            int now = shut;
            if (ways.stream().anyMatch(way -> way.stream().allMatch(l -> (now & 1 << l) == 0))) {
                int those = Integer.bitCount(shut);
                upper = upper.add(BigInteger.valueOf(x).pow(those)
                        .multiply(BigInteger.valueOf(10 - x).pow(lanes.size() - those)));
            }
        }
        BigInteger common = upper.gcd(lower);
        return (what == 0 ? upper : lower).divide(common).intValueExact();
    }

    private List<List<Integer>> waysFor(int p, int to) {
        return allWays(world.at.get(p), to, l -> !world.closed.get(l) && wide(p) <= lanes.get(l).width);
    }

    private List<List<Integer>> allWays(int from, int to, IntPredicate may) {
        List<List<Integer>> found = new ArrayList<>();
        goOn(from, to, may, 1 << from, new ArrayList<>(), found);
        return found;
    }

    private void goOn(int from, int to, IntPredicate may, int been, List<Integer> way, List<List<Integer>> found) {
        if (from == to) {
            found.add(List.copyOf(way));
            return;
        }
        for (int l = 0; l < lanes.size(); l++) {
            int next = lanes.get(l).other(from);
            if (next != -1 && may.test(l) && (been & 1 << next) == 0) {
                way.add(l);
                goOn(next, to, may, been | 1 << next, way, found);
                way.remove(way.size() - 1);
            }
        }
    }

    // ---- crowds

    int meeting(int p, int q, int l) {
        if (!isPerson(p) || !isPerson(q) || p == q || !isLane(l)) {
            return BAD;
        }
        int width = lanes.get(l).width;
        if (world.closed.get(l)) {
            return 5;
        }
        if (Math.max(wide(p), wide(q)) > width) {
            return 4;
        }
        if (wide(p) + wide(q) <= width) {
            return 0;
        }
        return wide(p) > wide(q) ? 1 : wide(p) < wide(q) ? 2 : 3;
    }

    int theatre(int w, int p) {
        if (w < 1 || w > 99 || p < -1 || p >= world.at.size()) {
            return BAD;
        }
        int[] best = null;
        int fewest = Integer.MAX_VALUE;
        int people = world.at.size();
        // All rows of all PEOPLE, as a number of as many digits, the least first.
        for (int code = 0; code < Math.pow(5, people); code++) {
            int[] row = new int[people];
            int rest = code;
            for (int q = people - 1; q >= 0; q--) {
                row[q] = rest % 5;
                rest /= 5;
            }
            int rows = Arrays.stream(row).max().orElse(-1) + 1;
            if (rows < fewest && isSeated(row, w)) {
                best = row;
                fewest = rows;
            }
        }
        return best == null ? NONE : p == -1 ? fewest : best[p];
    }

    private boolean isSeated(int[] row, int w) {
        int[] filled = new int[5];
        for (int q = 0; q < row.length; q++) {
            filled[row[q]] += wide(q);
        }
        return Arrays.stream(filled).allMatch(f -> f <= w);
    }

    int narrow(int l) {
        if (!isLane(l)) {
            return BAD;
        }
        int people = world.at.size();
        for (int many = 0; many <= people; many++) {
            for (int who = 0; who < 1 << people; who++) {
                int all = people * body;
                for (int p = 0; p < people; p++) {
                    all += (who & 1 << p) == 0 ? 2 * world.elbow.get(p) : 0;
                }
                if (Integer.bitCount(who) == many && all <= lanes.get(l).width) {
                    return who;
                }
            }
        }
        return NONE;
    }

    int order(int i) {
        if (!isPerson(i)) {
            return BAD;
        }
        List<Integer> people = new ArrayList<>();
        for (int p = 0; p < world.at.size(); p++) {
            people.add(p);
        }
        people.sort(Comparator.comparing(p -> -world.elbow.get(p)));
        return people.get(i);
    }

    // ---- gates

    int gate(int p, int m) {
        if (!isPerson(p) || m < 0 || m > 40) {
            return BAD;
        }
        if (measures.size() == 6) {
            return FULL;
        }
        measures.add(new Measure(p, m));
        return measures.size();
    }

    int forget() {
        int had = measures.size();
        measures.clear();
        return had;
    }

    int fits(int p) {
        if (!isPerson(p)) {
            return BAD;
        }
        return bits(10, e -> measures.stream().filter(m -> m.p == p)
                .allMatch(m -> body + 2 * e >= m.m - error && body + 2 * e <= m.m + error));
    }

    // ---- kinds, images

    int mark(int kind, int p) {
        if (!isPerson(p) || kind < 0 || kind > 5) {
            return NO;
        }
        int[] above = {-1, 0, 0, 1, 2, 0};
        int[] comes = {1, 10, 100, 1000, 10000, 100000};
        trace += comes[kind];
        int up = above[kind] == -1 ? 0 : mark(above[kind], p);
        int[] marks = {wide(p), up + Integer.bitCount(person(p, 4)), up - p, up * 2, up + world.gave.get(p),
            up + closed()};
        return marks[kind];
    }

    int keep(int image) {
        if (image < 0 || image > 1) {
            return BAD;
        }
        images[image] = new Image(world.copy(), past.stream().map(World::copy).toList());
        return closed();
    }

    int back(int image) {
        if (image < 0 || image > 1) {
            return BAD;
        }
        if (images[image] == null) {
            return STATE;
        }
        world = images[image].world.copy();
        past = new ArrayDeque<>();
        for (World w : images[image].past) {
            past.addLast(w.copy());
        }
        return closed();
    }

    int count(int what) {
        int[] counts = {places, lanes.size(), world.at.size(), body, error, measures.size(), past.size(),
            text.length()};
        return what < 0 || what >= counts.length ? BAD : counts[what];
    }

    long trace() {
        return trace;
    }

    private boolean isPlace(int place) {
        return place >= 0 && place < places;
    }

    private boolean isLane(int l) {
        return l >= 0 && l < lanes.size();
    }

    private boolean isPerson(int p) {
        return p >= 0 && p < world.at.size();
    }

    private int wide(int p) {
        return body + 2 * world.elbow.get(p);
    }

    private int closed() {
        return Integer.bitCount(now(0));
    }

    private static int bits(int many, IntPredicate is) {
        int bits = 0;
        for (int i = 0; i < many; i++) {
            bits |= is.test(i) ? 1 << i : 0;
        }
        return bits;
    }
}

import java.math.BigInteger;
import java.util.ArrayList;
import java.util.Arrays;
import java.util.HashMap;
import java.util.List;
import java.util.Map;

/**
 * The document a second time, in the slowest and plainest form: no bits, no short cuts, every
 * way tried. ModelTest compares the class with it, call by call.
 */
final class Model {
    static final int BAD = -1, STATE = -2, FULL = -3, NONE = -4;
    static final String[] KINDS = {"plain", "glass", "visitor", "dreamer"};

    static final class Sister {
        int kind;
        boolean[][] sides = new boolean[2][4];
        int[] tired = new int[2];
        int facing;

        Sister copy() {
            Sister c = new Sister();
            c.kind = kind;
            c.sides = new boolean[][] {sides[0].clone(), sides[1].clone()};
            c.tired = tired.clone();
            c.facing = facing;
            return c;
        }

        boolean glassEye(int which) {
            return kind == 1 && which == 0;
        }

        boolean sees(int which, int side) {
            return !glassEye(which) && sides[which][Math.floorMod(side - facing, 4)];
        }
    }

    record Heard(int q, int side, boolean was) {
    }

    static final class World {
        List<Sister> sisters = new ArrayList<>();
        int quarters = 4;
        int[] need = new int[4];
        boolean[][] storm = new boolean[6][4];
        int[] watch = new int[6];
        List<Heard> heard = new ArrayList<>();

        World copy() {
            World c = new World();
            for (Sister s : sisters) {
                c.sisters.add(s.copy());
            }
            c.quarters = quarters;
            c.need = need.clone();
            for (int q = 0; q < 6; q++) {
                c.storm[q] = storm[q].clone();
            }
            c.watch = watch.clone();
            c.heard = new ArrayList<>(heard);
            return c;
        }

        int watches() {
            return (int) Math.round(Math.pow(3, sisters.size()));
        }
    }

    World now = new World();
    World[] images = new World[2];
    int[][] sheets = new int[4][];
    int[] lanes = new int[4];
    int torn = 0;
    int fault = 0;
    StringBuilder tape = new StringBuilder();

    // ---- the text

    int feed(long v) {
        if (tape.length() > 312) {
            return FULL;
        }
        for (int i = 7; i >= 0; i--) {
            tape.append((char) (v >>> 8 * i & 255));
        }
        return tape.length();
    }

    int end(int n) {
        if (n < 0 || n > tape.length()) {
            return BAD;
        }
        int had = tape.length();
        tape.setLength(n);
        return had;
    }

    static final class Fault extends Exception {
        final int what;
        final int place;

        Fault(int what, int place) {
            this.what = what;
            this.place = place;
        }
    }

    int place;
    int start;
    String given;

    /** The next token, "" at the end. */
    String token() throws Fault {
        while (place < given.length() && given.charAt(place) == ' ') {
            place++;
        }
        start = place;
        if (place == given.length()) {
            return "";
        }
        String rest = given.substring(place);
        String found = rest.replaceFirst("(?s)^([a-z]+|[0-9]+|;).*$", "$1");
        if (found.equals(rest) && !rest.matches("[a-z]+|[0-9]+|;") || found.matches("[0-9]{3,}")) {
            throw new Fault(1, start);
        }
        place += found.length();
        return found;
    }

    int number(int low, int high) throws Fault {
        String t = token();
        if (!t.matches("[0-9]+")) {
            throw new Fault(2, start);
        }
        int v = Integer.parseInt(t);
        if (v < low || v > high) {
            throw new Fault(3, start);
        }
        return v;
    }

    int text() {
        given = tape.toString();
        tape.setLength(0);
        place = 0;
        fault = 0;
        World w = new World();
        try {
            int lines = lines(w);
            now = w;
            images = new World[2];
            return lines;
        } catch (Fault f) {
            fault = f.what;
            return -10 - f.place;
        }
    }

    int lines(World w) throws Fault {
        boolean quarters = false;
        boolean[] needs = new boolean[4];
        boolean[] watches = new boolean[6];
        boolean[] beds = new boolean[3];
        int[] facing = new int[3];
        int lines = 0;
        for (String t = token(); !t.isEmpty(); t = token()) {
            switch (t) {
                case "sister" -> {
                    if (w.sisters.size() == 3) {
                        throw new Fault(5, start);
                    }
                    Sister s = new Sister();
                    s.kind = Arrays.asList(KINDS).indexOf(token());
                    if (s.kind < 0) {
                        throw new Fault(2, start);
                    }
                    for (int i = 0; i < 2; i++) {
                        int bits = number(0, 15);
                        for (int side = 0; side < 4; side++) {
                            s.sides[i][side] = (bits & 1 << side) != 0;
                        }
                    }
                    for (int i = 0; i < 2; i++) {
                        s.tired[i] = number(0, 9);
                    }
                    if (s.kind == 1) {
                        s.tired[0] = 0;
                    }
                    w.sisters.add(s);
                }
                case "quarters" -> {
                    if (quarters) {
                        throw new Fault(4, start);
                    }
                    quarters = true;
                    w.quarters = number(1, 6);
                }
                case "need" -> {
                    int side = once(needs, 3);
                    w.need[side] = number(0, 6);
                }
                case "storm" -> {
                    int q = number(0, 5);
                    once(w.storm[q], 3);
                }
                case "watch" -> {
                    int q = once(watches, 5);
                    w.watch[q] = number(0, 26);
                }
                case "bed" -> {
                    int s = once(beds, 2);
                    facing[s] = number(0, 3);
                }
                default -> throw new Fault(2, start);
            }
            if (!token().equals(";")) {
                throw new Fault(2, start);
            }
            lines++;
        }
        for (int s = 0; s < 3; s++) {
            if (beds[s] && s >= w.sisters.size()) {
                throw new Fault(6, given.length());
            }
            if (s < w.sisters.size()) {
                w.sisters.get(s).facing = facing[s];
            }
        }
        for (int q = w.quarters; q < 6; q++) {
            if (watches[q] || Arrays.toString(w.storm[q]).contains("true")) {
                throw new Fault(6, given.length());
            }
        }
        for (int q = 0; q < 6; q++) {
            for (int s = w.sisters.size(); s < 3; s++) {
                if (figure(w.watch[q], s) != 0) {
                    throw new Fault(7, given.length());
                }
            }
        }
        return lines;
    }

    int once(boolean[] told, int high) throws Fault {
        int i = number(0, high);
        if (told[i]) {
            throw new Fault(4, start);
        }
        told[i] = true;
        return i;
    }

    int fault() {
        return fault;
    }

    boolean sisterIs(int s) {
        return s >= 0 && s < now.sisters.size();
    }

    boolean eyeIs(int e) {
        return e >= 0 && sisterIs(e / 2);
    }

    boolean quarterIs(int q) {
        return q >= 0 && q < now.quarters;
    }

    boolean in(int v, int low, int high) {
        return v >= low && v <= high;
    }

    boolean watchIs(int w) {
        return in(w, 0, now.watches() - 1);
    }

    int rule(int what) {
        return what == 0 ? now.sisters.size() : what == 1 ? now.quarters : BAD;
    }

    int sister(int s, int what) {
        if (!sisterIs(s) || !in(what, 0, 1)) {
            return BAD;
        }
        return what == 0 ? now.sisters.get(s).kind : now.sisters.get(s).facing;
    }

    int eye(int e, int what) {
        if (!eyeIs(e) || !in(what, 0, 1)) {
            return BAD;
        }
        Sister s = now.sisters.get(e / 2);
        if (what == 1) {
            return s.tired[e % 2];
        }
        int bits = 0;
        for (int side = 0; side < 4; side++) {
            bits += s.sees(e % 2, side) ? 1 << side : 0;
        }
        return bits;
    }

    int neededAt(World w, int side, int q) {
        return w.need[side] + (w.storm[q][side] ? 1 : 0);
    }

    int needed(int side, int q) {
        return in(side, 0, 3) && quarterIs(q) ? neededAt(now, side, q) : BAD;
    }

    int watch(int q) {
        return quarterIs(q) ? now.watch[q] : BAD;
    }

    // ---- what is changed

    int tell(int q, int w) {
        if (!quarterIs(q) || !watchIs(w)) {
            return BAD;
        }
        int was = now.watch[q];
        now.watch[q] = w;
        return was;
    }

    int need(int side, int v) {
        if (!in(side, 0, 3) || !in(v, 0, 6)) {
            return BAD;
        }
        int was = now.need[side];
        now.need[side] = v;
        return was;
    }

    int storm(int q, int side, boolean is) {
        if (!quarterIs(q) || !in(side, 0, 3)) {
            return BAD;
        }
        boolean was = now.storm[q][side];
        now.storm[q][side] = is;
        return was ? 1 : 0;
    }

    int turn(int s, int f) {
        if (!sisterIs(s) || !in(f, 0, 3)) {
            return BAD;
        }
        int was = now.sisters.get(s).facing;
        now.sisters.get(s).facing = f;
        return was;
    }

    int tire(int e, int v) {
        if (!eyeIs(e) || !in(v, 0, 9) || now.sisters.get(e / 2).glassEye(e % 2)) {
            return BAD;
        }
        int was = now.sisters.get(e / 2).tired[e % 2];
        now.sisters.get(e / 2).tired[e % 2] = v;
        return was;
    }

    // ---- one quarter

    static int figure(int w, int s) {
        String figures = new StringBuilder(Integer.toString(27 + w, 3)).reverse().toString();
        return figures.charAt(s) - '0';
    }

    static boolean shuts(int w, int e) {
        return figure(w, e / 2) == e % 2 + 1;
    }

    boolean[] openBy(World world, int w) {
        boolean[] open = new boolean[2 * world.sisters.size()];
        for (int e = 0; e < open.length; e++) {
            open[e] = !shuts(w, e) && !world.sisters.get(e / 2).glassEye(e % 2);
        }
        return open;
    }

    int count(World world, int side, boolean[] open) {
        int sum = 0;
        for (int e = 0; e < open.length; e++) {
            Sister s = world.sisters.get(e / 2);
            if (s.sees(e % 2, side)) {
                sum += open[e] ? 2 : s.kind == 3 ? 1 : 0;
            }
        }
        return sum;
    }

    boolean misses(World world, int side, int q, boolean[] open) {
        return count(world, side, open) < 2 * neededAt(world, side, q);
    }

    boolean isLawful(World world, int q, int w) {
        for (int side = 0; side < 4; side++) {
            if (misses(world, side, q, openBy(world, w))) {
                return false;
            }
        }
        return true;
    }

    int sees(int side, int w) {
        return in(side, 0, 3) && watchIs(w) ? count(now, side, openBy(now, w)) : BAD;
    }

    int lawful(int q, int w) {
        return quarterIs(q) && watchIs(w) ? isLawful(now, q, w) ? 1 : 0 : BAD;
    }

    boolean countsToRest(World world, int e) {
        return !world.sisters.get(e / 2).glassEye(e % 2);
    }

    int asleep(int q, int what) {
        if (!quarterIs(q) || !in(what, 0, 1)) {
            return BAD;
        }
        for (int many = 6; many >= 0; many--) {
            for (int w = 0; w < now.watches(); w++) {
                int shut = 0;
                for (int e = 0; e < 2 * now.sisters.size(); e++) {
                    shut += shuts(w, e) && countsToRest(now, e) ? 1 : 0;
                }
                if (shut == many && isLawful(now, q, w)) {
                    return what == 0 ? many : w;
                }
            }
        }
        return NONE;
    }

    // ---- a night

    /** How tired eyes are as each quarter begins, and behind the last one. */
    int[][] tiredness() {
        int eyes = 2 * now.sisters.size();
        int[][] tired = new int[now.quarters + 1][eyes];
        for (int e = 0; e < eyes; e++) {
            tired[0][e] = now.sisters.get(e / 2).tired[e % 2];
        }
        for (int q = 0; q < now.quarters; q++) {
            boolean[] open = openIn(q, tired[q]);
            for (int e = 0; e < eyes; e++) {
                int by = now.sisters.get(e / 2).kind == 2 ? 2 : 1;
                int next = tired[q][e] + (open[e] ? by : -2);
                tired[q + 1][e] = next < 0 ? 0 : next > 9 ? 9 : next;
            }
        }
        return tired;
    }

    boolean[] openIn(int q, int[] tired) {
        boolean[] open = openBy(now, now.watch[q]);
        for (int e = 0; e < open.length; e++) {
            if (tired[e] == 9) {
                open[e] = false;
            }
        }
        return open;
    }

    int tired(int e, int q) {
        return eyeIs(e) && quarterIs(q) ? tiredness()[q + 1][e] : BAD;
    }

    int open(int q) {
        if (!quarterIs(q)) {
            return BAD;
        }
        boolean[] open = openIn(q, tiredness()[q]);
        int bits = 0;
        for (int e = 0; e < open.length; e++) {
            bits += open[e] ? 1 << e : 0;
        }
        return bits;
    }

    int missed(int q) {
        if (!quarterIs(q)) {
            return BAD;
        }
        int bits = 0;
        for (int side = 0; side < 4; side++) {
            bits += misses(now, side, q, openIn(q, tiredness()[q])) ? 1 << side : 0;
        }
        return bits;
    }

    int wreck() {
        for (int q = 0; q < now.quarters; q++) {
            if (missed(q) > 0) {
                return q;
            }
        }
        return NONE;
    }

    int rest(int e) {
        if (!eyeIs(e)) {
            return BAD;
        }
        int sum = 0;
        for (int q = 0; q < now.quarters; q++) {
            sum += shuts(now.watch[q], e) ? 1 : 0;
        }
        return sum;
    }

    // ---- rounds, the best

    int round(int what) {
        if (what != 0 && !in(what, 10, 12)) {
            return BAD;
        }
        if (now.sisters.isEmpty()) {
            return STATE;
        }
        World calm = now.copy();
        calm.storm = new boolean[6][4];
        for (int n = 1; n <= 3; n++) {
            int ways = (int) Math.round(Math.pow(27, n));
            for (int way = 0; way < ways; way++) {
                int[] ws = new int[n];
                int left = way;
                for (int i = n - 1; i >= 0; i--) {
                    ws[i] = left % 27;
                    left /= 27;
                }
                if (isRound(calm, ws)) {
                    return what == 0 ? n : what - 10 < n ? ws[what - 10] : NONE;
                }
            }
        }
        return NONE;
    }

    boolean isRound(World world, int[] ws) {
        for (int w : ws) {
            if (w >= world.watches()) {
                return false;
            }
        }
        for (int e = 0; e < 2 * world.sisters.size(); e++) {
            boolean shut = !countsToRest(world, e);
            for (int w : ws) {
                shut |= shuts(w, e);
            }
            if (!shut) {
                return false;
            }
        }
        for (int w : ws) {
            if (!isLawful(world, 0, w)) {
                return false;
            }
        }
        return true;
    }

    record Best(int least, List<Integer> watches) {
    }

    /** The first watches by which eyes rest so and so, for every so and so; then the best. */
    Best theBest(World world) {
        Map<List<Integer>, List<Integer>> ways = new HashMap<>();
        int eyes = 2 * world.sisters.size();
        ways.put(new ArrayList<>(java.util.Collections.nCopies(eyes, 0)), new ArrayList<>());
        for (int q = 0; q < world.quarters; q++) {
            Map<List<Integer>, List<Integer>> next = new HashMap<>();
            for (int w = 0; w < world.watches(); w++) {
                if (!isLawful(world, q, w)) {
                    continue;
                }
                for (Map.Entry<List<Integer>, List<Integer>> way : ways.entrySet()) {
                    List<Integer> rests = new ArrayList<>(way.getKey());
                    for (int e = 0; e < eyes; e++) {
                        rests.set(e, rests.get(e) + (shuts(w, e) ? 1 : 0));
                    }
                    List<Integer> row = new ArrayList<>(way.getValue());
                    row.add(w);
                    List<Integer> other = next.get(rests);
                    if (other == null || isAhead(row, other)) {
                        next.put(rests, row);
                    }
                }
            }
            ways = next;
        }
        Best best = null;
        for (Map.Entry<List<Integer>, List<Integer>> way : ways.entrySet()) {
            int least = world.quarters;
            for (int e = 0; e < eyes; e++) {
                least = countsToRest(world, e) ? Math.min(least, way.getKey().get(e)) : least;
            }
            if (best == null || least > best.least()
                || least == best.least() && isAhead(way.getValue(), best.watches())) {
                best = new Best(least, way.getValue());
            }
        }
        return best;
    }

    static boolean isAhead(List<Integer> a, List<Integer> b) {
        for (int i = 0; i < a.size(); i++) {
            if (!a.get(i).equals(b.get(i))) {
                return a.get(i) < b.get(i);
            }
        }
        return false;
    }

    int best(int what) {
        if (what != 0 && (what < 10 || !quarterIs(what - 10))) {
            return BAD;
        }
        Best best = theBest(now);
        return best == null ? NONE : what == 0 ? best.least() : best.watches().get(what - 10);
    }

    int without(int s) {
        if (!sisterIs(s)) {
            return BAD;
        }
        World fewer = now.copy();
        fewer.sisters.remove(s);
        Best best = theBest(fewer);
        return best == null ? NONE : best.least();
    }

    int beds(int what) {
        if (what != 0 && (what < 10 || !sisterIs(what - 10))) {
            return BAD;
        }
        World trial = now.copy();
        int[] answer = {NONE, 0, 0, 0};
        tryBeds(trial, 0, answer);
        return answer[0] == NONE || what == 0 ? answer[0] : answer[what - 9];
    }

    void tryBeds(World trial, int s, int[] answer) {
        if (s == trial.sisters.size()) {
            Best best = theBest(trial);
            if (best != null && best.least() > answer[0]) {
                answer[0] = best.least();
                for (int i = 0; i < s; i++) {
                    answer[i + 1] = trial.sisters.get(i).facing;
                }
            }
            return;
        }
        for (int f = 0; f < 4; f++) {
            trial.sisters.get(s).facing = f;
            tryBeds(trial, s + 1, answer);
        }
    }

    // ---- a storm told late

    int late(int q, int w, int what) {
        if (!quarterIs(q) || !watchIs(w) || !in(what, 0, 1)) {
            return BAD;
        }
        for (int many = 0; many <= 3; many++) {
            for (int then = 0; then < now.watches(); then++) {
                int openers = 0;
                boolean only = true;
                for (int s = 0; s < now.sisters.size(); s++) {
                    if (figure(then, s) != figure(w, s)) {
                        openers++;
                        only &= figure(then, s) == 0;
                    }
                }
                if (only && openers == many && isLawful(now, q, then)) {
                    return what == 0 ? many : then;
                }
            }
        }
        return NONE;
    }

    // ---- by sleep

    /** The odds of a side, by the eyes from e on, as a numerator by 10 to the eyes. */
    BigInteger missedWays(int side, int q, int[] tired, boolean[] open, int e) {
        if (e == open.length) {
            return misses(now, side, q, open) ? BigInteger.ONE : BigInteger.ZERO;
        }
        if (!open[e]) {
            return missedWays(side, q, tired, open, e + 1).multiply(BigInteger.TEN);
        }
        boolean[] shut = open.clone();
        shut[e] = false;
        BigInteger asleep = missedWays(side, q, tired, shut, e + 1).multiply(BigInteger.valueOf(tired[e]));
        BigInteger awake = missedWays(side, q, tired, open, e + 1).multiply(BigInteger.valueOf(10 - tired[e]));
        return asleep.add(awake);
    }

    BigInteger waysOf(int side, int q) {
        int[] tired = tiredness()[q];
        return missedWays(side, q, tired, openIn(q, tired), 0);
    }

    long lowest(BigInteger ways, int what) {
        BigInteger all = BigInteger.TEN.pow(2 * now.sisters.size());
        return (what == 0 ? ways : all).divide(ways.gcd(all)).longValueExact();
    }

    long odds(int side, int q, int what) {
        if (!in(side, 0, 3) || !quarterIs(q) || !in(what, 0, 1)) {
            return BAD;
        }
        return lowest(waysOf(side, q), what);
    }

    long mean(int q, int what) {
        if (!quarterIs(q) || !in(what, 0, 1)) {
            return BAD;
        }
        BigInteger sum = BigInteger.ZERO;
        for (int side = 0; side < 4; side++) {
            sum = sum.add(waysOf(side, q));
        }
        return lowest(sum, what);
    }

    // ---- heard

    int hear(int q, int side, boolean was) {
        if (!quarterIs(q) || !in(side, 0, 3)) {
            return BAD;
        }
        if (now.heard.size() == 8) {
            return FULL;
        }
        now.heard.add(new Heard(q, side, was));
        return now.heard.size();
    }

    int forget(int n) {
        if (!in(n, 0, now.heard.size())) {
            return BAD;
        }
        int had = now.heard.size();
        now.heard = new ArrayList<>(now.heard.subList(0, n));
        return had;
    }

    int fits(int q, int what) {
        if (!quarterIs(q) || !in(what, 0, 3)) {
            return BAD;
        }
        List<Integer> fitting = new ArrayList<>();
        for (int w = 0; w < now.watches(); w++) {
            boolean fit = true;
            for (Heard h : now.heard) {
                fit &= h.q() != q || count(now, h.side(), openBy(now, w)) > 0 == h.was();
            }
            if (fit) {
                fitting.add(w);
            }
        }
        if (what == 0) {
            return fitting.size();
        }
        if (fitting.isEmpty()) {
            return NONE;
        }
        if (what == 1) {
            return fitting.get(0);
        }
        int bits = 0;
        for (int e = 0; e < 2 * now.sisters.size(); e++) {
            int shut = 0;
            for (int w : fitting) {
                shut += shuts(w, e) ? 1 : 0;
            }
            bits += shut == (what == 2 ? fitting.size() : 0) ? 1 << e : 0;
        }
        return bits;
    }

    // ---- images, sheets

    int keep(int k) {
        if (!in(k, 0, 1)) {
            return BAD;
        }
        int was = images[k] == null ? 0 : 1;
        images[k] = now.copy();
        return was;
    }

    int back(int k) {
        if (!in(k, 0, 1)) {
            return BAD;
        }
        if (images[k] == null) {
            return STATE;
        }
        now = images[k].copy();
        return now.sisters.size();
    }

    int sheet(int k, int lane, int n) {
        if (!in(k, 0, 3) || !in(lane, 0, 2) || n > 40) {
            return BAD;
        }
        if (n < 0) {
            return -14;
        }
        sheets[k] = new int[n];
        lanes[k] = lane;
        return 1;
    }

    int lay(int k, int i, int v) {
        if (!in(k, 0, 3)) {
            return BAD;
        }
        if (sheets[k] == null) {
            return -11;
        }
        if (!in(i, 0, sheets[k].length - 1)) {
            return -12;
        }
        sheets[k][i] = lanes[k] == 0 ? (byte) v : lanes[k] == 1 ? (short) v : v;
        return 1;
    }

    int read(int k, int lane, int f, int n) {
        if (!in(k, 0, 3) || !in(lane, 0, 2) || !in(n, 0, 13)) {
            return BAD;
        }
        World before = now.copy();
        for (int i = 0; i < n; i++) {
            long first = f + 2L * i;
            int met = 0;
            if (sheets[k] == null) {
                met = 1;
            } else if (lanes[k] != lane) {
                met = 3;
            } else if (first < 0 || first + 1 >= sheets[k].length) {
                met = 2;
            }
            if (met != 0) {
                torn = met;
                return i;
            }
            if (tell(sheets[k][(int) first], sheets[k][(int) first + 1]) == BAD) {
                now = before;
                return -20 - i;
            }
        }
        torn = 0;
        return n;
    }

    int torn() {
        return torn;
    }

    int count(int what) {
        int storms = 0;
        for (boolean[] row : now.storm) {
            for (boolean is : row) {
                storms += is ? 1 : 0;
            }
        }
        int kept = (images[0] == null ? 0 : 1) + (images[1] == null ? 0 : 1);
        int cells = sheets[0] == null ? NONE : sheets[0].length;
        int[] answers = {now.heard.size(), kept, tape.length(), cells, storms, now.watches()};
        return in(what, 0, 5) ? answers[what] : BAD;
    }
}

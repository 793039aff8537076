import java.util.Arrays;

/**
 * Sisters keep a light by eyes of which each may shut one: told in a text or by calls, asked
 * quarter by quarter. The promises stand in DOC.md; each call answers, for any arguments.
 */
public final class ThreeAwake {
    public static final int BAD = -1, STATE = -2, FULL = -3, NONE = -4;

    private static final int SISTERS = 3, EYES = 6, SIDES = 4, QUARTERS = 6, WATCHES = 27;
    private static final int GLASS = 1, VISITOR = 2, DREAMER = 3;
    private static final int MOST_NEED = 6, MOST_TIRED = 9, MOST_HEARD = 8, LONGEST_ROUND = 3;
    private static final int IMAGES = 2, SHEETS = 4, LANES = 3, CELLS = 40, TELLS = 13;
    private static final int NULL = 1, INDEX = 2, CAST = 3, SIZE = 4;

    /** What a shut eye of each sister counts in the number of a watch; behind: all watches. */
    private static final int[] POWER = {1, 3, 9, 27};

    /** The eyes that are shut by each watch (bits), by its figures alone. */
    private static final int[] SHUT = {
        0, 1, 2, 4, 5, 6, 8, 9, 10,
        16, 17, 18, 20, 21, 22, 24, 25, 26,
        32, 33, 34, 36, 37, 38, 40, 41, 42
    };

    private final House house = new House();
    private final Post post = new Post();
    private final Post[] images = {new Post(), new Post()};
    private int imagesKept;
    private final Sheet[] sheets = {new Sheet(), new Sheet(), new Sheet(), new Sheet()};
    private int lastTorn;
    private final Reader reader = new Reader();
    private final Sight sight = new Sight();
    private final Night night = new Night();
    private final Plan plan = new Plan();
    private final Circle circle = new Circle();
    private final Slumber slumber = new Slumber();
    private final int[] trialFacing = new int[SISTERS];

    public ThreeAwake() {
    }

    // ---- the text

    public int feed(long v) {
        return reader.append(v);
    }

    public int end(int n) {
        if (n < 0 || n > reader.length) {
            return BAD;
        }
        int had = reader.length;
        reader.length = n;
        return had;
    }

    public int text() {
        boolean taken = reader.readAll();
        reader.length = 0;
        if (!taken) {
            return -10 - reader.place;
        }
        house.become(reader.house);
        post.become(reader.post);
        imagesKept = 0;
        return reader.lines;
    }

    public int fault() {
        return reader.fault;
    }

    public int rule(int what) {
        if (what == 0) {
            return house.sisters;
        }
        return what == 1 ? house.quarters : BAD;
    }

    public int sister(int s, int what) {
        if (!house.hasSister(s) || !isEither(what)) {
            return BAD;
        }
        return what == 0 ? house.kind[s] : post.facing[s];
    }

    public int eye(int e, int what) {
        if (!house.hasEye(e) || !isEither(what)) {
            return BAD;
        }
        return what == 0 ? look().seen[e] : post.tired[e];
    }

    public int needed(int side, int q) {
        if (!isSide(side) || !house.hasQuarter(q)) {
            return BAD;
        }
        return post.need[side] + (post.storm[q] >> side & 1);
    }

    public int watch(int q) {
        return house.hasQuarter(q) ? post.watch[q] : BAD;
    }

    // ---- what is changed

    public int tell(int q, int w) {
        if (!canTell(q, w)) {
            return BAD;
        }
        int was = post.watch[q];
        post.watch[q] = w;
        return was;
    }

    public int need(int side, int v) {
        if (!isSide(side) || v < 0 || v > MOST_NEED) {
            return BAD;
        }
        int was = post.need[side];
        post.need[side] = v;
        return was;
    }

    public int storm(int q, int side, boolean is) {
        if (!house.hasQuarter(q) || !isSide(side)) {
            return BAD;
        }
        int was = post.storm[q] >> side & 1;
        if (is) {
            post.storm[q] |= 1 << side;
        } else {
            post.storm[q] &= ~(1 << side);
        }
        return was;
    }

    public int turn(int s, int f) {
        if (!house.hasSister(s) || f < 0 || f > 3) {
            return BAD;
        }
        int was = post.facing[s];
        post.facing[s] = f;
        return was;
    }

    public int tire(int e, int v) {
        if (!house.hasEye(e) || house.isGlassEye(e) || v < 0 || v > MOST_TIRED) {
            return BAD;
        }
        int was = post.tired[e];
        post.tired[e] = v;
        return was;
    }

    // ---- one quarter

    public int sees(int side, int w) {
        if (!isSide(side) || !house.hasWatch(w)) {
            return BAD;
        }
        look();
        return sight.countOf(side, sight.openBy(w));
    }

    public int lawful(int q, int w) {
        if (!canTell(q, w)) {
            return BAD;
        }
        look();
        return isLawful(q, w) ? 1 : 0;
    }

    public int asleep(int q, int what) {
        if (!house.hasQuarter(q) || !isEither(what)) {
            return BAD;
        }
        look();
        int most = NONE;
        int first = NONE;
        for (int w = 0; w < house.watches(); w++) {
            int shut = Integer.bitCount(SHUT[w] & ~sight.glass);
            if (shut > most && isLawful(q, w)) {
                most = shut;
                first = w;
            }
        }
        return what == 0 ? most : first;
    }

    // ---- a night

    public int tired(int e, int q) {
        if (!house.hasEye(e) || !house.hasQuarter(q)) {
            return BAD;
        }
        night.reach(house, post, look(), q);
        night.pass(house);
        return night.tired[e];
    }

    public int open(int q) {
        if (!house.hasQuarter(q)) {
            return BAD;
        }
        night.reach(house, post, look(), q);
        return night.open;
    }

    public int missed(int q) {
        return house.hasQuarter(q) ? missedIn(q) : BAD;
    }

    public int wreck() {
        for (int q = 0; q < house.quarters; q++) {
            if (missedIn(q) != 0) {
                return q;
            }
        }
        return NONE;
    }

    public int rest(int e) {
        if (!house.hasEye(e)) {
            return BAD;
        }
        int quartersShut = 0;
        for (int q = 0; q < house.quarters; q++) {
            quartersShut += SHUT[post.watch[q]] >> e & 1;
        }
        return quartersShut;
    }

    // ---- rounds, the best

    public int round(int what) {
        if (what != 0 && (what < 10 || what >= 10 + LONGEST_ROUND)) {
            return BAD;
        }
        if (house.sisters == 0) {
            return STATE;
        }
        int length = circle.shortest(look(), post.need);
        if (length == 0) {
            return NONE;
        }
        if (what == 0) {
            return length;
        }
        return what - 10 < length ? circle.watch[what - 10] : NONE;
    }

    public int best(int what) {
        if (what != 0 && (what < 10 || !house.hasQuarter(what - 10))) {
            return BAD;
        }
        plan.prepare(house, post, look());
        int least = plan.greatest(-1);
        if (least < 0) {
            return NONE;
        }
        if (what == 0) {
            return least;
        }
        // The search for more than the greatest has failed and left its tries behind.
        plan.find(least);
        return plan.watch[what - 10];
    }

    public int without(int s) {
        if (!house.hasSister(s)) {
            return BAD;
        }
        sight.look(house, post.facing, house.everybody() & ~(1 << s));
        plan.prepare(house, post, sight);
        int least = plan.greatest(-1);
        return least < 0 ? NONE : least;
    }

    public int beds(int what) {
        if (what != 0 && (what < 10 || !house.hasSister(what - 10))) {
            return BAD;
        }
        int best = -1;
        int bestFacings = 0;
        int all = 1 << 2 * house.sisters;
        for (int facings = 0; facings < all; facings++) {
            layBeds(facings);
            sight.look(house, trialFacing, house.everybody());
            plan.prepare(house, post, sight);
            int least = plan.greatest(best);
            if (least > best) {
                best = least;
                bestFacings = facings;
            }
        }
        if (best < 0) {
            return NONE;
        }
        layBeds(bestFacings);
        return what == 0 ? best : trialFacing[what - 10];
    }

    // ---- a storm told late

    public int late(int q, int w, int what) {
        if (!canTell(q, w) || !isEither(what)) {
            return BAD;
        }
        look();
        int fewest = SISTERS + 1;
        int first = NONE;
        for (int who = 0; who < 1 << SISTERS; who++) {
            int then = opened(w, who);
            int openers = Integer.bitCount(who);
            boolean better = openers < fewest || openers == fewest && then < first;
            if (then >= 0 && better && isLawful(q, then)) {
                fewest = openers;
                first = then;
            }
        }
        if (first == NONE) {
            return NONE;
        }
        return what == 0 ? fewest : first;
    }

    // ---- by sleep

    public long odds(int side, int q, int what) {
        if (!isSide(side) || !house.hasQuarter(q) || !isEither(what)) {
            return BAD;
        }
        weighSleep(q);
        return slumber.fraction(slumber.missed[side], what);
    }

    public long mean(int q, int what) {
        if (!house.hasQuarter(q) || !isEither(what)) {
            return BAD;
        }
        weighSleep(q);
        long sum = 0;
        for (int side = 0; side < SIDES; side++) {
            sum += slumber.missed[side];
        }
        return slumber.fraction(sum, what);
    }

    // ---- heard

    public int hear(int q, int side, boolean was) {
        if (!house.hasQuarter(q) || !isSide(side)) {
            return BAD;
        }
        if (post.heardCount >= MOST_HEARD) {
            return FULL;
        }
        post.heard[post.heardCount] = (q * SIDES + side) * 2 + (was ? 1 : 0);
        post.heardCount++;
        return post.heardCount;
    }

    public int forget(int n) {
        if (n < 0 || n > post.heardCount) {
            return BAD;
        }
        int had = post.heardCount;
        post.heardCount = n;
        return had;
    }

    public int fits(int q, int what) {
        if (!house.hasQuarter(q) || what < 0 || what > 3) {
            return BAD;
        }
        look();
        int many = 0;
        int first = NONE;
        int shutByAll = sight.eyes;
        int shutByAny = 0;
        for (int w = 0; w < house.watches(); w++) {
            if (isAsHeard(q, w)) {
                first = many == 0 ? w : first;
                many++;
                shutByAll &= SHUT[w];
                shutByAny |= SHUT[w];
            }
        }
        if (what == 0) {
            return many;
        }
        if (many == 0 || what == 1) {
            return first;
        }
        return what == 2 ? shutByAll : sight.eyes & ~shutByAny;
    }

    // ---- images, sheets

    public int keep(int k) {
        if (!isImage(k)) {
            return BAD;
        }
        int was = imagesKept >> k & 1;
        images[k].become(post);
        imagesKept |= 1 << k;
        return was;
    }

    public int back(int k) {
        if (!isImage(k)) {
            return BAD;
        }
        if ((imagesKept >> k & 1) == 0) {
            return STATE;
        }
        post.become(images[k]);
        return house.sisters;
    }

    public int sheet(int k, int lane, int n) {
        if (!isSheet(k) || !isLane(lane) || n > CELLS) {
            return BAD;
        }
        if (n < 0) {
            return -10 - SIZE;
        }
        sheets[k].begin(lane, n);
        return 1;
    }

    public int lay(int k, int i, int v) {
        if (!isSheet(k)) {
            return BAD;
        }
        int met = sheets[k].faultAt(i);
        if (met != 0) {
            return -10 - met;
        }
        sheets[k].put(i, v);
        return 1;
    }

    public int read(int k, int lane, int f, int n) {
        if (!isSheet(k) || !isLane(lane) || n < 0 || n > TELLS) {
            return BAD;
        }
        Sheet row = sheets[k];
        int met = 0;
        int whole = 0;
        for (int i = 0; i < n && met == 0; i++) {
            met = row.faultOfPair(lane, f, i);
            if (met == 0) {
                if (!canTell(row.cell[f + 2 * i], row.cell[f + 2 * i + 1])) {
                    return -20 - i;
                }
                whole++;
            }
        }
        // Only now, for one that is BAD lets none come.
        for (int i = 0; i < whole; i++) {
            post.watch[row.cell[f + 2 * i]] = row.cell[f + 2 * i + 1];
        }
        lastTorn = met;
        return whole;
    }

    public int torn() {
        return lastTorn;
    }

    public int count(int what) {
        switch (what) {
            case 0:
                return post.heardCount;
            case 1:
                return Integer.bitCount(imagesKept);
            case 2:
                return reader.length;
            case 3:
                return sheets[0].isNothing() ? NONE : sheets[0].size;
            case 4:
                return post.storms();
            case 5:
                return house.watches();
            default:
                return BAD;
        }
    }

    // ---- what the calls share

    private static boolean isEither(int what) {
        return what == 0 || what == 1;
    }

    private static boolean isSide(int side) {
        return side >= 0 && side < SIDES;
    }

    private static boolean isImage(int k) {
        return k >= 0 && k < IMAGES;
    }

    private static boolean isSheet(int k) {
        return k >= 0 && k < SHEETS;
    }

    private static boolean isLane(int lane) {
        return lane >= 0 && lane < LANES;
    }

    private boolean canTell(int q, int w) {
        return house.hasQuarter(q) && house.hasWatch(w);
    }

    /** What all sisters see as they lie now. */
    private Sight look() {
        sight.look(house, post.facing, house.everybody());
        return sight;
    }

    private boolean isLawful(int q, int w) {
        return sight.lacking(post.need, post.storm[q], sight.openBy(w)) == 0;
    }

    private int missedIn(int q) {
        night.reach(house, post, look(), q);
        return sight.lacking(post.need, post.storm[q], night.open);
    }

    private void weighSleep(int q) {
        night.reach(house, post, look(), q);
        slumber.weigh(night, sight, post.need, post.storm[q]);
    }

    /** The facings told by a number to the base 4 whose highest figure is that of sister 0. */
    private void layBeds(int facings) {
        for (int s = 0; s < house.sisters; s++) {
            trialFacing[s] = facings >> 2 * (house.sisters - 1 - s) & 3;
        }
    }

    /** A watch when some sisters (bits) open what they shut; BAD if one of them shuts nothing. */
    private static int opened(int w, int who) {
        int then = w;
        for (int s = 0; s < SISTERS; s++) {
            if ((who >> s & 1) == 1) {
                int figure = SHUT[w] >> 2 * s & 3;
                if (figure == 0) {
                    return BAD;
                }
                then -= figure * POWER[s];
            }
        }
        return then;
    }

    private boolean isAsHeard(int q, int w) {
        int open = sight.openBy(w);
        for (int i = 0; i < post.heardCount; i++) {
            int place = post.heard[i] >> 1;
            boolean was = (post.heard[i] & 1) == 1;
            if (place / SIDES == q && sight.countOf(place % SIDES, open) > 0 != was) {
                return false;
            }
        }
        return true;
    }

    /** Who keeps the light and for how long: what a text alone can change. */
    private static final class House {
        int sisters = 0;
        int quarters = 4;
        final int[] kind = new int[SISTERS];
        final int[] sides = new int[EYES];

        void become(House other) {
            sisters = other.sisters;
            quarters = other.quarters;
            System.arraycopy(other.kind, 0, kind, 0, SISTERS);
            System.arraycopy(other.sides, 0, sides, 0, EYES);
        }

        void empty() {
            sisters = 0;
            quarters = 4;
            Arrays.fill(kind, 0);
            Arrays.fill(sides, 0);
        }

        boolean hasSister(int s) {
            return s >= 0 && s < sisters;
        }

        boolean hasEye(int e) {
            return e >= 0 && e < 2 * sisters;
        }

        boolean hasQuarter(int q) {
            return q >= 0 && q < quarters;
        }

        boolean hasWatch(int w) {
            return w >= 0 && w < watches();
        }

        int watches() {
            return POWER[sisters];
        }

        int everybody() {
            return (1 << sisters) - 1;
        }

        boolean isGlassEye(int e) {
            return (e & 1) == 0 && kind[e / 2] == GLASS;
        }
    }

    /** What calls change, and what an image holds. */
    private static final class Post {
        final int[] facing = new int[SISTERS];
        final int[] tired = new int[EYES];
        final int[] need = new int[SIDES];
        /** Of each quarter the sides (bits) at which there is a storm. */
        final int[] storm = new int[QUARTERS];
        final int[] watch = new int[QUARTERS];
        /** Each a quarter and a side, and as the lowest bit whether the count was above 0. */
        final int[] heard = new int[MOST_HEARD];
        int heardCount = 0;

        void become(Post other) {
            System.arraycopy(other.facing, 0, facing, 0, SISTERS);
            System.arraycopy(other.tired, 0, tired, 0, EYES);
            System.arraycopy(other.need, 0, need, 0, SIDES);
            System.arraycopy(other.storm, 0, storm, 0, QUARTERS);
            System.arraycopy(other.watch, 0, watch, 0, QUARTERS);
            System.arraycopy(other.heard, 0, heard, 0, MOST_HEARD);
            heardCount = other.heardCount;
        }

        void empty() {
            Arrays.fill(facing, 0);
            Arrays.fill(tired, 0);
            Arrays.fill(need, 0);
            Arrays.fill(storm, 0);
            Arrays.fill(watch, 0);
            heardCount = 0;
        }

        int storms() {
            int sum = 0;
            for (int q = 0; q < QUARTERS; q++) {
                sum += Integer.bitCount(storm[q]);
            }
            return sum;
        }
    }

    /** What the eyes of some sisters see as they lie, and what sides lack by open eyes. */
    private static final class Sight {
        final int[] seen = new int[EYES];
        /** Bits: the eyes there are, the glass ones, those that count half when they are shut. */
        int eyes = 0;
        int glass = 0;
        int dreaming = 0;

        /** Looks with the eyes of the sisters who are there (bits). */
        void look(House house, int[] facing, int there) {
            eyes = 0;
            glass = 0;
            dreaming = 0;
            for (int s = 0; s < SISTERS; s++) {
                int both = 3 << 2 * s;
                boolean isThere = (there >> s & 1) == 1;
                seen[2 * s] = isThere ? turned(house.sides[2 * s], facing[s]) : 0;
                seen[2 * s + 1] = isThere ? turned(house.sides[2 * s + 1], facing[s]) : 0;
                if (isThere) {
                    eyes |= both;
                    if (house.kind[s] == GLASS) {
                        glass |= 1 << 2 * s;
                        seen[2 * s] = 0;
                    }
                    dreaming |= house.kind[s] == DREAMER ? both : 0;
                }
            }
        }

        private static int turned(int sides, int facing) {
            return (sides << facing | sides >> 4 - facing) & 15;
        }

        int openBy(int w) {
            return eyes & ~glass & ~SHUT[w];
        }

        int countOf(int side, int open) {
            int sum = 0;
            for (int e = 0; e < EYES; e++) {
                if ((seen[e] >> side & 1) == 1) {
                    sum += (open >> e & 1) == 1 ? 2 : dreaming >> e & 1;
                }
            }
            return sum;
        }

        /** The sides (bits) whose count by the open eyes is not as needed. */
        int lacking(int[] need, int storm, int open) {
            int sides = 0;
            for (int side = 0; side < SIDES; side++) {
                int needed = need[side] + (storm >> side & 1);
                if (countOf(side, open) < 2 * needed) {
                    sides |= 1 << side;
                }
            }
            return sides;
        }
    }

    /** The eyes as a quarter begins, by the watches that were told. */
    private static final class Night {
        final int[] tired = new int[EYES];
        int open = 0;

        void reach(House house, Post post, Sight sight, int q) {
            System.arraycopy(post.tired, 0, tired, 0, EYES);
            beginQuarter(sight, post.watch[0]);
            for (int next = 1; next <= q; next++) {
                pass(house);
                beginQuarter(sight, post.watch[next]);
            }
        }

        private void beginQuarter(Sight sight, int w) {
            open = sight.openBy(w);
            for (int e = 0; e < EYES; e++) {
                if (tired[e] >= MOST_TIRED) {
                    open &= ~(1 << e);
                }
            }
        }

        /** Lets the quarter go by; a glass eye is never open, so it stays as it is: at 0. */
        void pass(House house) {
            for (int e = 0; e < EYES; e++) {
                if ((open >> e & 1) == 1) {
                    int more = house.kind[e / 2] == VISITOR ? 2 : 1;
                    tired[e] = Math.min(MOST_TIRED, tired[e] + more);
                } else {
                    tired[e] = Math.max(0, tired[e] - 2);
                }
            }
        }
    }

    /** Looks for the shortest round. */
    private static final class Circle {
        final int[] watch = new int[LONGEST_ROUND];
        /** The watches that are lawful without storms (bits). */
        private int lawfulBits = 0;

        /** How many quarters the shortest round has; 0: there is none. */
        int shortest(Sight sight, int[] need) {
            lawfulBits = 0;
            for (int w = 0; w < WATCHES; w++) {
                boolean all = (SHUT[w] & ~sight.eyes) == 0;
                if (all && sight.lacking(need, 0, sight.openBy(w)) == 0) {
                    lawfulBits |= 1 << w;
                }
            }
            for (int length = 1; length <= LONGEST_ROUND; length++) {
                if (fill(this, 0, length, sight.eyes & ~sight.glass)) {
                    return length;
                }
            }
            return 0;
        }

        /** Whether watches from place i on can shut the eyes that no earlier one shuts. */
        private static boolean fill(Circle circle, int i, int length, int unshut) {
            if (i >= length || i >= LONGEST_ROUND) {
                return unshut == 0;
            }
            for (int w = 0; w < WATCHES; w++) {
                if ((circle.lawfulBits >> w & 1) == 1) {
                    circle.watch[i] = w;
                    if (fill(circle, i + 1, length, unshut & ~SHUT[w])) {
                        return true;
                    }
                }
            }
            return false;
        }
    }

    /**
     * Looks for lawful watches of a night by which each eye (no glass) is shut so many times.
     * What the eyes lack of that in the quarters to come is one number, the code: a figure for
     * each eye that counts. From a code in a quarter it can be done or not, whatever was before.
     */
    private static final class Plan {
        /** 6 eyes that may lack 3 each (one of two is shut in 6 quarters), or 3 that may lack 6. */
        private static final int CODES = 4096;

        final int[] watch = new int[QUARTERS];
        private int quarters = 0;
        private int ceiling = 0;
        private int counting = 0;
        private int base = 1;
        private final int[] lawfulBits = new int[QUARTERS];
        /** From each quarter on, how many shuttings of eyes there can be at most. */
        private final int[] mostToCome = new int[QUARTERS + 1];
        /** What an eye's figure counts in a code; 0 for an eye that does not count. */
        private final int[] weight = new int[EYES];
        /** For each quarter the codes (bits) from which it can not be done. */
        private final long[] failed = new long[QUARTERS * CODES / 64];

        void prepare(House house, Post post, Sight sight) {
            quarters = house.quarters;
            counting = sight.eyes & ~sight.glass;
            boolean inPairs = (counting & counting >> 1 & 21) != 0;
            ceiling = inPairs ? quarters / 2 : quarters;
            mostToCome[quarters] = 0;
            for (int q = quarters - 1; q >= 0; q--) {
                judge(post, sight, q);
            }
        }

        private void judge(Post post, Sight sight, int q) {
            int most = 0;
            lawfulBits[q] = 0;
            for (int w = 0; w < WATCHES; w++) {
                boolean all = (SHUT[w] & ~sight.eyes) == 0;
                if (all && sight.lacking(post.need, post.storm[q], sight.openBy(w)) == 0) {
                    lawfulBits[q] |= 1 << w;
                    most = Math.max(most, Integer.bitCount(SHUT[w] & counting));
                }
            }
            mostToCome[q] = mostToCome[q + 1] + most;
        }

        /** The greatest least rest that there can be above a floor; else the floor. */
        int greatest(int floor) {
            int least = floor;
            while (least < ceiling && find(least + 1)) {
                least++;
            }
            return least;
        }

        /** Whether each eye can be shut so many times; then watch holds the first way. */
        boolean find(int times) {
            base = times + 1;
            int all = 1;
            for (int e = 0; e < EYES; e++) {
                boolean counts = (counting >> e & 1) == 1;
                weight[e] = counts ? all : 0;
                all *= counts ? base : 1;
            }
            if (all > CODES) {
                return false;
            }
            Arrays.fill(failed, 0L);
            return reach(this, 0, all - 1);
        }

        private static boolean reach(Plan plan, int q, int code) {
            if (q >= plan.quarters || q >= QUARTERS) {
                return code == 0;
            }
            int slot = q * CODES + code;
            if ((plan.failed[slot >> 6] >> (slot & 63) & 1L) == 1L) {
                return false;
            }
            for (int w = 0; w < WATCHES; w++) {
                if ((plan.lawfulBits[q] >> w & 1) == 1) {
                    int next = plan.codeBehind(code, w);
                    plan.watch[q] = w;
                    if (plan.hasTime(q + 1, next) && reach(plan, q + 1, next)) {
                        return true;
                    }
                }
            }
            plan.failed[slot >> 6] |= 1L << (slot & 63);
            return false;
        }

        private int lack(int e, int code) {
            return weight[e] > 0 && base > 0 ? code / weight[e] % base : 0;
        }

        private int codeBehind(int code, int w) {
            int next = code;
            for (int e = 0; e < EYES; e++) {
                if ((SHUT[w] >> e & 1) == 1 && lack(e, code) > 0) {
                    next -= weight[e];
                }
            }
            return next;
        }

        /** Whether the quarters from q on may be enough: of each sister one eye in each. */
        private boolean hasTime(int q, int code) {
            int sum = 0;
            for (int s = 0; s < SISTERS; s++) {
                int both = lack(2 * s, code) + lack(2 * s + 1, code);
                if (both > quarters - q) {
                    return false;
                }
                sum += both;
            }
            return sum <= mostToCome[q];
        }
    }

    /** Weighs all ways in which open eyes may fall shut in a quarter. */
    private static final class Slumber {
        /** Of each side by how many ways it is missed; and how many ways there are. */
        final long[] missed = new long[SIDES];
        private long all = 1;

        void weigh(Night night, Sight sight, int[] need, int storm) {
            Arrays.fill(missed, 0L);
            all = 0;
            for (int fallen = 0; fallen < 1 << EYES; fallen++) {
                if ((fallen & ~night.open) == 0) {
                    long ways = waysOf(night, fallen);
                    int sides = sight.lacking(need, storm, night.open & ~fallen);
                    all += ways;
                    for (int side = 0; side < SIDES; side++) {
                        missed[side] += (sides >> side & 1) * ways;
                    }
                }
            }
        }

        private static long waysOf(Night night, int fallen) {
            long ways = 1;
            for (int e = 0; e < EYES; e++) {
                if ((fallen >> e & 1) == 1) {
                    ways *= night.tired[e];
                } else if ((night.open >> e & 1) == 1) {
                    ways *= 10 - night.tired[e];
                }
            }
            return ways;
        }

        /** So many of all ways in lowest terms: the numerator (0) or the denominator (1). */
        long fraction(long ways, int what) {
            long divisor = commonDivisor(ways, all);
            if (divisor <= 0) {
                return 0;
            }
            return (what == 0 ? ways : all) / divisor;
        }

        private static long commonDivisor(long a, long b) {
            long high = a;
            long low = b;
            // Far more steps than Euclid needs for any two longs.
            for (int i = 0; i < 200 && low != 0; i++) {
                long left = high % low;
                high = low;
                low = left;
            }
            return high;
        }
    }

    /** The tape, and the reading of it into a house and a post of the reader's own. */
    private static final class Reader {
        private static final int TAPE = 320;
        /** Kinds of a token: a place where there is none any more, a name, a number, the sign. */
        private static final int BEHIND = 0, NAME = 1, NUMBER = 2, SIGN = 3;

        private final byte[] tape = new byte[TAPE];
        int length = 0;
        int fault = 0;
        int place = 0;
        int lines = 0;
        final House house = new House();
        final Post post = new Post();
        /** The token that was read last: its kind, where it begins, a number's value. */
        private int token = BEHIND;
        private int from = 0;
        private int value = 0;
        private int at = 0;
        private boolean quartersTold = false;
        private int needsTold = 0;
        private int watchesTold = 0;
        private int bedsTold = 0;

        int append(long v) {
            if (length + 8 > TAPE) {
                return FULL;
            }
            for (int shift = 56; shift >= 0; shift -= 8) {
                tape[length] = (byte) (v >> shift);
                length++;
            }
            return length;
        }

        /** Whether the whole tape could be taken; else fault and place tell why not. */
        boolean readAll() {
            begin();
            // Each line takes a byte at least.
            for (int i = 0; i <= TAPE; i++) {
                if (!next()) {
                    return false;
                }
                if (token == BEHIND) {
                    return agrees();
                }
                if (!line()) {
                    return false;
                }
                lines++;
            }
            return false;
        }

        private void begin() {
            house.empty();
            post.empty();
            fault = 0;
            place = 0;
            lines = 0;
            at = 0;
            quartersTold = false;
            needsTold = 0;
            watchesTold = 0;
            bedsTold = 0;
        }

        private boolean refuse(int what, int where) {
            fault = what;
            place = where;
            return false;
        }

        private boolean line() {
            if (token != NAME) {
                return refuse(2, from);
            }
            if (isName("sister")) {
                return sisterLine() && sign();
            }
            if (isName("quarters")) {
                return quartersLine() && sign();
            }
            if (isName("need")) {
                return needLine() && sign();
            }
            if (isName("storm")) {
                return stormLine() && sign();
            }
            if (isName("watch")) {
                return watchLine() && sign();
            }
            if (isName("bed")) {
                return bedLine() && sign();
            }
            return refuse(2, from);
        }

        private boolean sisterLine() {
            int s = house.sisters;
            if (s >= SISTERS) {
                return refuse(5, from);
            }
            if (!kindName()) {
                return false;
            }
            house.kind[s] = value;
            for (int e = 2 * s; e <= 2 * s + 1; e++) {
                if (!number(0, 15)) {
                    return false;
                }
                house.sides[e] = value;
            }
            for (int e = 2 * s; e <= 2 * s + 1; e++) {
                if (!number(0, MOST_TIRED)) {
                    return false;
                }
                post.tired[e] = house.isGlassEye(e) ? 0 : value;
            }
            house.sisters++;
            return true;
        }

        private boolean quartersLine() {
            if (quartersTold) {
                return refuse(4, from);
            }
            if (!number(1, QUARTERS)) {
                return false;
            }
            quartersTold = true;
            house.quarters = value;
            return true;
        }

        private boolean needLine() {
            if (!number(0, SIDES - 1)) {
                return false;
            }
            int side = value;
            if ((needsTold >> side & 1) == 1) {
                return refuse(4, from);
            }
            if (!number(0, MOST_NEED)) {
                return false;
            }
            needsTold |= 1 << side;
            post.need[side] = value;
            return true;
        }

        private boolean stormLine() {
            if (!number(0, QUARTERS - 1)) {
                return false;
            }
            int q = value;
            if (!number(0, SIDES - 1)) {
                return false;
            }
            if ((post.storm[q] >> value & 1) == 1) {
                return refuse(4, from);
            }
            post.storm[q] |= 1 << value;
            return true;
        }

        private boolean watchLine() {
            if (!number(0, QUARTERS - 1)) {
                return false;
            }
            int q = value;
            if ((watchesTold >> q & 1) == 1) {
                return refuse(4, from);
            }
            if (!number(0, WATCHES - 1)) {
                return false;
            }
            watchesTold |= 1 << q;
            post.watch[q] = value;
            return true;
        }

        private boolean bedLine() {
            if (!number(0, SISTERS - 1)) {
                return false;
            }
            int s = value;
            if ((bedsTold >> s & 1) == 1) {
                return refuse(4, from);
            }
            if (!number(0, 3)) {
                return false;
            }
            bedsTold |= 1 << s;
            post.facing[s] = value;
            return true;
        }

        /** Whether lines tell only of sisters, quarters and eyes that there are. */
        private boolean agrees() {
            int stormy = 0;
            for (int q = 0; q < QUARTERS; q++) {
                stormy |= post.storm[q] != 0 ? 1 << q : 0;
            }
            if (bedsTold >> house.sisters != 0 || (stormy | watchesTold) >> house.quarters != 0) {
                return refuse(6, length);
            }
            for (int q = 0; q < QUARTERS; q++) {
                if (!house.hasWatch(post.watch[q])) {
                    return refuse(7, length);
                }
            }
            return true;
        }

        private boolean kindName() {
            if (!next()) {
                return false;
            }
            if (token != NAME) {
                return refuse(2, from);
            }
            if (isName("plain")) {
                value = 0;
            } else if (isName("glass")) {
                value = GLASS;
            } else if (isName("visitor")) {
                value = VISITOR;
            } else if (isName("dreamer")) {
                value = DREAMER;
            } else {
                return refuse(2, from);
            }
            return true;
        }

        private boolean number(int low, int high) {
            if (!next()) {
                return false;
            }
            if (token != NUMBER) {
                return refuse(2, from);
            }
            if (value < low || value > high) {
                return refuse(3, from);
            }
            return true;
        }

        private boolean sign() {
            if (!next()) {
                return false;
            }
            if (token != SIGN) {
                return refuse(2, from);
            }
            return true;
        }

        /** Reads the next token; false: what stands there is none. */
        private boolean next() {
            while (at < length && tape[at] == ' ') {
                at++;
            }
            from = at;
            if (at >= length) {
                token = BEHIND;
                return true;
            }
            if (isLetter(tape[at])) {
                letters();
                return true;
            }
            if (isFigure(tape[at])) {
                return figures();
            }
            if (tape[at] != ';') {
                return refuse(1, from);
            }
            token = SIGN;
            at++;
            return true;
        }

        private void letters() {
            token = NAME;
            while (at < length && isLetter(tape[at])) {
                at++;
            }
        }

        private boolean figures() {
            token = NUMBER;
            value = 0;
            while (at < length && isFigure(tape[at])) {
                // A number that is too long is refused: its value may wrap around.
                value = value * 10 + tape[at] - '0';
                at++;
            }
            if (at - from > 2) {
                return refuse(1, from);
            }
            return true;
        }

        private static boolean isLetter(byte sign) {
            return sign >= 'a' && sign <= 'z';
        }

        private static boolean isFigure(byte sign) {
            return sign >= '0' && sign <= '9';
        }

        /** Whether the name that was read last is this one. */
        private boolean isName(String name) {
            if (at - from != name.length()) {
                return false;
            }
            for (int i = 0; i < name.length(); i++) {
                if (tape[from + i] != name.charAt(i)) {
                    return false;
                }
            }
            return true;
        }
    }

    /** A row of bytes, shorts or ints (by its lane), or nothing. */
    private static final class Sheet {
        private int lane = 0;
        int size = -1;
        final int[] cell = new int[CELLS];

        boolean isNothing() {
            return size < 0;
        }

        void begin(int ofLane, int n) {
            lane = ofLane;
            size = n;
            Arrays.fill(cell, 0);
        }

        /** What the machine finds when a cell is asked for. */
        int faultAt(int i) {
            if (isNothing()) {
                return NULL;
            }
            return i < 0 || i >= size ? INDEX : 0;
        }

        /** What the machine finds when two cells are, pair i behind cell f, as of a lane. */
        int faultOfPair(int ofLane, int f, int i) {
            if (isNothing()) {
                return NULL;
            }
            if (ofLane != lane) {
                return CAST;
            }
            // Before f is added to: it may be as high as an int goes.
            if (f < 0 || f >= size) {
                return INDEX;
            }
            return faultAt(f + 2 * i + 1);
        }

        void put(int i, int v) {
            if (lane == 0) {
                cell[i] = (byte) v;
            } else {
                cell[i] = lane == 1 ? (short) v : v;
            }
        }
    }
}

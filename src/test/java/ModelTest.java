/** Long runs of calls, each answer compared with that of Model, which tries every way. */
public final class ModelTest {
    private static long seed = 20261118;

    private static int below(int n) {
        seed = seed * 6364136223846793005L + 1442695040888963407L;
        return (int) Math.floorMod(seed >>> 33, (long) n);
    }

    private static boolean once(int in) {
        return below(in) == 0;
    }

    /** Mostly low to high, now and then one past an end or far off. */
    private static int about(int low, int high) {
        if (once(40)) {
            int[] far = {Integer.MIN_VALUE, Integer.MAX_VALUE, -1, low - 1, high + 1, 99, 10};
            return far[below(far.length)];
        }
        return low + below(high - low + 1);
    }

    private static String blank() {
        return once(6) ? "   ".substring(below(3)) : " ";
    }

    private static String num(int low, int high) {
        int v = once(60) ? high + 1 : low + below(high - low + 1);
        return blank() + (once(30) && v < 10 ? "0" : "") + v;
    }

    private static String text(int sisters, int quarters, int lines) {
        StringBuilder t = new StringBuilder();
        for (int i = 0; i < sisters; i++) {
            t.append("sister ").append(Model.KINDS[below(4)]);
            t.append(num(0, 15)).append(num(0, 15)).append(num(0, 9)).append(num(0, 9)).append(";");
        }
        t.append("quarters ").append(quarters).append(';');
        for (int i = 0; i < lines; i++) {
            int all = (int) Math.pow(3, sisters) - 1;
            switch (below(5)) {
                case 0 -> t.append("need").append(num(0, 3)).append(num(0, once(4) ? 6 : 2));
                case 1 -> t.append("storm").append(num(0, quarters - 1)).append(num(0, 3));
                case 2 -> t.append("watch").append(num(0, quarters - 1)).append(num(0, all));
                case 3 -> t.append("bed").append(num(0, Math.max(0, sisters - 1))).append(num(0, 3));
                default -> t.append(once(20) ? "quarters 3" : "need" + num(0, 3) + " 1");
            }
            t.append(blank().isEmpty() ? "; " : ";");
        }
        if (once(4)) {
            String signs = " ;019azAneed,\u00e9";
            int where = below(t.length());
            t.setCharAt(where, signs.charAt(below(signs.length())));
        }
        return t.toString();
    }

    private static void feedText(int run, ThreeAwake x, Model m, String text) {
        for (int i = 0; i < text.length(); i += 8) {
            long v = 0;
            for (int j = i; j < i + 8; j++) {
                v = v << 8 | (j < text.length() ? text.charAt(j) : ' ');
            }
            Check.due(run + ": feed(" + v + ")", x.feed(v), m.feed(v));
        }
        Check.due(run + ": end", x.end(text.length()), m.end(text.length()));
        Check.due(run + ": text() of [" + text + "]", x.text(), m.text());
        Check.due(run + ": fault() of [" + text + "]", x.fault(), m.fault());
    }

    private static int quarter() {
        return about(0, 4);
    }

    private static int watchNumber(Model m) {
        return about(0, m.now.watches() - 1);
    }

    private static void change(String at, ThreeAwake x, Model m) {
        int a = quarter();
        int b = about(0, 3);
        int w = watchNumber(m);
        int t = about(0, 9);
        int e = about(0, 5);
        int s = about(0, 2);
        boolean is = once(2);
        switch (below(6)) {
            case 0 -> Check.due(at + "tell", x.tell(a, w), m.tell(a, w));
            case 1 -> {
                int v = once(4) ? about(0, 6) : about(0, 2);
                Check.due(at + "need", x.need(b, v), m.need(b, v));
            }
            case 2 -> Check.due(at + "storm", x.storm(a, b, is), m.storm(a, b, is));
            case 3 -> Check.due(at + "turn", x.turn(s, b), m.turn(s, b));
            case 4 -> Check.due(at + "tire", x.tire(e, t), m.tire(e, t));
            default -> Check.due(at + "hear", x.hear(a, b, is), m.hear(a, b, is));
        }
    }

    private static void ask(String at, ThreeAwake x, Model m) {
        int q = quarter();
        int side = about(0, 3);
        int w = watchNumber(m);
        int e = about(0, 5);
        int s = about(0, 2);
        int what = about(0, 1);
        switch (below(19)) {
            case 0 -> Check.due(at + "rule", x.rule(what), m.rule(what));
            case 1 -> Check.due(at + "sister", x.sister(s, what), m.sister(s, what));
            case 2 -> Check.due(at + "eye", x.eye(e, what), m.eye(e, what));
            case 3 -> Check.due(at + "needed", x.needed(side, q), m.needed(side, q));
            case 4 -> Check.due(at + "watch", x.watch(q), m.watch(q));
            case 5 -> Check.due(at + "sees", x.sees(side, w), m.sees(side, w));
            case 6 -> Check.due(at + "lawful", x.lawful(q, w), m.lawful(q, w));
            case 7 -> Check.due(at + "asleep", x.asleep(q, what), m.asleep(q, what));
            case 8 -> Check.due(at + "tired", x.tired(e, q), m.tired(e, q));
            case 9 -> Check.due(at + "open", x.open(q), m.open(q));
            case 10 -> Check.due(at + "missed", x.missed(q), m.missed(q));
            case 11 -> Check.due(at + "wreck", x.wreck(), m.wreck());
            case 12 -> Check.due(at + "rest", x.rest(e), m.rest(e));
            case 13 -> Check.due(at + "late", x.late(q, w, what), m.late(q, w, what));
            case 14 -> Check.due(at + "odds", x.odds(side, q, what), m.odds(side, q, what));
            case 15 -> Check.due(at + "mean", x.mean(q, what), m.mean(q, what));
            case 16 -> {
                int of = about(0, 3);
                Check.due(at + "fits", x.fits(q, of), m.fits(q, of));
            }
            case 17 -> {
                int n = once(3) ? about(0, 8) : m.now.heard.size();
                Check.due(at + "forget", x.forget(n), m.forget(n));
            }
            default -> {
                int of = about(0, 5);
                Check.due(at + "count", x.count(of), m.count(of));
            }
        }
    }

    private static void store(String at, ThreeAwake x, Model m) {
        int k = about(0, 1);
        int row = about(0, 3);
        int lane = about(0, 2);
        int cell = about(0, 12);
        switch (below(8)) {
            case 0 -> Check.due(at + "keep", x.keep(k), m.keep(k));
            case 1 -> Check.due(at + "back", x.back(k), m.back(k));
            case 2 -> {
                int n = once(8) ? about(-3, 40) : about(4, 12);
                Check.due(at + "sheet", x.sheet(row, lane, n), m.sheet(row, lane, n));
            }
            case 3, 4, 5 -> {
                int v = once(9) ? about(-70000, 70000) : below(5);
                Check.due(at + "lay", x.lay(row, cell, v), m.lay(row, cell, v));
            }
            default -> {
                int told = m.lanes[Math.floorMod(row, 4)];
                int of = once(4) ? lane : told;
                int f = once(5) ? about(-2, 41) : below(4);
                int n = once(9) ? about(0, 13) : below(7);
                Check.due(at + "read", x.read(row, of, f, n), m.read(row, of, f, n));
                Check.due(at + "torn", x.torn(), m.torn());
            }
        }
    }

    /** Dear in the model: of many sisters in long nights asked but now and then. */
    private static void plan(String at, ThreeAwake x, Model m) {
        int size = m.now.sisters.size() * m.now.quarters;
        int first = once(3) ? 0 : about(10, 9 + Math.max(1, m.now.quarters));
        if (once(3)) {
            int what = once(3) ? 0 : about(10, 12);
            Check.due(at + "round", x.round(what), m.round(what));
        } else if (size <= 9 || once(size <= 12 ? 8 : 60)) {
            Check.due(at + "best(" + first + ")", x.best(first), m.best(first));
            int s = about(0, 2);
            Check.due(at + "without", x.without(s), m.without(s));
        }
        if (size <= 4 || size <= 8 && once(20)) {
            int what = once(2) ? 0 : about(10, 12);
            Check.due(at + "beds(" + what + ")", x.beds(what), m.beds(what));
        }
    }

    private static void run(int run) {
        ThreeAwake x = new ThreeAwake();
        Model m = new Model();
        int texts = 1 + below(3);
        int begun = Check.compared();
        for (int i = 0; i < texts; i++) {
            String text = text(below(4), 1 + below(6), below(8));
            // An object is used for 512 calls: a text takes 43 of them at most, a step 3.
            if (Check.compared() - begun > 512 - 43) {
                return;
            }
            feedText(run, x, m, text);
            for (int call = 0; call < 120 && Check.compared() - begun <= 512 - 3; call++) {
                String at = "run " + run + ", text " + i + ", call " + call + ": ";
                switch (below(6)) {
                    case 0, 1 -> change(at, x, m);
                    case 2, 3 -> ask(at, x, m);
                    case 4 -> store(at, x, m);
                    default -> plan(at, x, m);
                }
            }
        }
    }

    /** Three sisters and five or six quarters: what the search marks as it goes matters here. */
    private static void longNight(int night) {
        StringBuilder t = new StringBuilder("quarters ").append(5 + below(2)).append(';');
        boolean alike = once(2);
        for (int s = 0; s < 3; s++) {
            int kind = once(6) ? 1 : alike ? 0 : below(4);
            t.append("sister ").append(Model.KINDS[kind]);
            t.append(' ').append(once(3) ? below(16) : 15).append(' ').append(once(3) ? below(16) : 15).append(" 0 0;");
        }
        for (int side = 0; side < 4; side++) {
            t.append("need ").append(side).append(' ').append(below(5)).append(';');
        }
        for (int q = 0; q < 5; q++) {
            t.append(once(3) ? "storm " + q + " " + below(4) + ";" : "");
        }
        ThreeAwake x = new ThreeAwake();
        Model m = new Model();
        feedText(night, x, m, t.toString());
        Model.Best best = m.theBest(m.now);
        Check.due("best(0) of " + t, x.best(0), best == null ? Model.NONE : best.least());
        for (int q = 0; q < m.now.quarters; q++) {
            Check.due("best(1" + q + ") of " + t, x.best(10 + q), best == null ? Model.NONE : best.watches().get(q));
        }
        for (int s = 0; s < 3; s++) {
            Check.due("without(" + s + ") of " + t, x.without(s), m.without(s));
        }
    }

    public static void main(String[] args) {
        int runs = args.length > 0 ? Integer.parseInt(args[0]) : 400;
        seed += args.length > 1 ? Long.parseLong(args[1]) : 0;
        for (int i = 0; i < runs; i++) {
            run(i);
        }
        for (int i = 0; i < runs / 8; i++) {
            longNight(i);
        }
        Check.finish();
    }
}

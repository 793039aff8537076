import java.util.ArrayList;
import java.util.List;

/**
 * Each number that a call takes: the smallest and the greatest that is taken, the first on either
 * side that is refused; and what is refused leaves all as it was. The same of questions.
 */
public final class RefusedTest {
    private static final int BAD = ThreeAwake.BAD, STATE = ThreeAwake.STATE, FULL = ThreeAwake.FULL;

    private interface Call {
        long of(ThreeAwake x, int[] a);
    }

    /** A call, whether it only asks, and of each of its numbers the bounds. */
    private record Face(String name, boolean asks, Call call, int... bounds) {
    }

    /** A house with all that can be told in it; sisters are 1 to 3. */
    private record House(int sisters, int quarters) {
        private static final String[] WHO = {
            "sister glass 9 7 0 3;", "sister dreamer 3 12 8 0;", "sister visitor 5 10 9 2;"
        };

        int watches() {
            return new int[] {1, 3, 9, 27}[sisters];
        }

        ThreeAwake built() {
            StringBuilder t = new StringBuilder("quarters ").append(quarters).append(";need 1 1;storm 0 2;bed 0 1;watch 0 2;");
            for (int s = 0; s < sisters; s++) {
                t.append(WHO[s]);
            }
            ThreeAwake x = Check.told(t.toString());
            x.hear(0, 1, true);
            x.keep(0);
            x.turn(0, 3);
            x.tire(1, 6);
            x.need(3, 2);
            x.storm(quarters - 1, 0, true);
            x.tell(quarters - 1, 1);
            x.forget(0);
            x.hear(0, 3, false);
            x.hear(quarters - 1, 0, true);
            x.keep(1);
            x.turn(0, 2);
            x.need(1, 0);
            x.sheet(0, 0, 7);
            x.sheet(1, 1, 3);
            x.sheet(2, 2, 0);
            x.lay(0, 1, 1);
            x.lay(1, 1, 2);
            // A fault of a text and a fault of the machine, for a refused call leaves both.
            Check.put(x, "x");
            x.text();
            x.read(1, 1, 0, 2);
            Check.put(x, "need 2 4;");
            return x;
        }
    }

    private static final int[] LANES = {0, 1, 2, 0};

    private static List<Face> faces(House h) {
        int s = h.sisters() - 1;
        int e = 2 * h.sisters() - 1;
        int q = h.quarters() - 1;
        int w = h.watches() - 1;
        List<Face> faces = new ArrayList<>();
        faces.add(new Face("end", false, (x, a) -> x.end(a[0]), 0, 9));
        faces.add(new Face("rule", true, (x, a) -> x.rule(a[0]), 0, 1));
        faces.add(new Face("sister", true, (x, a) -> x.sister(a[0], a[1]), 0, s, 0, 1));
        faces.add(new Face("eye", true, (x, a) -> x.eye(a[0], a[1]), 0, e, 0, 1));
        faces.add(new Face("needed", true, (x, a) -> x.needed(a[0], a[1]), 0, 3, 0, q));
        faces.add(new Face("watch", true, (x, a) -> x.watch(a[0]), 0, q));
        faces.add(new Face("tell", false, (x, a) -> x.tell(a[0], a[1]), 0, q, 0, w));
        faces.add(new Face("need", false, (x, a) -> x.need(a[0], a[1]), 0, 3, 0, 6));
        faces.add(new Face("storm", false, (x, a) -> x.storm(a[0], a[1], true), 0, q, 0, 3));
        faces.add(new Face("no storm", false, (x, a) -> x.storm(a[0], a[1], false), 0, q, 0, 3));
        faces.add(new Face("turn", false, (x, a) -> x.turn(a[0], a[1]), 0, s, 0, 3));
        faces.add(new Face("tire", false, (x, a) -> x.tire(a[0], a[1]), 1, e, 0, 9));
        faces.add(new Face("sees", true, (x, a) -> x.sees(a[0], a[1]), 0, 3, 0, w));
        faces.add(new Face("lawful", true, (x, a) -> x.lawful(a[0], a[1]), 0, q, 0, w));
        faces.add(new Face("asleep", true, (x, a) -> x.asleep(a[0], a[1]), 0, q, 0, 1));
        faces.add(new Face("tired", true, (x, a) -> x.tired(a[0], a[1]), 0, e, 0, q));
        faces.add(new Face("open", true, (x, a) -> x.open(a[0]), 0, q));
        faces.add(new Face("missed", true, (x, a) -> x.missed(a[0]), 0, q));
        faces.add(new Face("wreck", true, (x, a) -> x.wreck()));
        faces.add(new Face("rest", true, (x, a) -> x.rest(a[0]), 0, e));
        faces.add(new Face("round(0)", true, (x, a) -> x.round(0)));
        faces.add(new Face("round", true, (x, a) -> x.round(a[0]), 10, 12));
        faces.add(new Face("best(0)", true, (x, a) -> x.best(0)));
        faces.add(new Face("best", true, (x, a) -> x.best(a[0]), 10, 10 + q));
        faces.add(new Face("without", true, (x, a) -> x.without(a[0]), 0, s));
        faces.add(new Face("beds(0)", true, (x, a) -> x.beds(0)));
        faces.add(new Face("beds", true, (x, a) -> x.beds(a[0]), 10, 10 + s));
        faces.add(new Face("late", true, (x, a) -> x.late(a[0], a[1], a[2]), 0, q, 0, w, 0, 1));
        faces.add(new Face("odds", true, (x, a) -> x.odds(a[0], a[1], a[2]), 0, 3, 0, q, 0, 1));
        faces.add(new Face("mean", true, (x, a) -> x.mean(a[0], a[1]), 0, q, 0, 1));
        faces.add(new Face("hear", false, (x, a) -> x.hear(a[0], a[1], true), 0, q, 0, 3));
        faces.add(new Face("hear not", false, (x, a) -> x.hear(a[0], a[1], false), 0, q, 0, 3));
        faces.add(new Face("forget", false, (x, a) -> x.forget(a[0]), 0, 2));
        faces.add(new Face("fits", true, (x, a) -> x.fits(a[0], a[1]), 0, q, 0, 3));
        faces.add(new Face("keep", false, (x, a) -> x.keep(a[0]), 0, 1));
        faces.add(new Face("back", false, (x, a) -> x.back(a[0]), 0, 1));
        faces.add(new Face("sheet", false, (x, a) -> x.sheet(a[0], a[1], a[2]), 0, 3, 0, 2, 0, 40));
        faces.add(new Face("lay", false, (x, a) -> x.lay(a[0], 0, 0), 0, 3));
        faces.add(new Face("read", false, (x, a) -> x.read(a[0], a[1], 0, a[2]), 0, 3, 0, 2, 0, 13));
        faces.add(new Face("torn", true, (x, a) -> x.torn()));
        faces.add(new Face("fault", true, (x, a) -> x.fault()));
        faces.add(new Face("count", true, (x, a) -> x.count(a[0]), 0, 5));
        return faces;
    }

    private static String told(House h, Face face, int[] a) {
        StringBuilder t = new StringBuilder().append(h).append(": ").append(face.name()).append('(');
        for (int i = 0; i < a.length; i++) {
            t.append(i > 0 ? ", " : "").append(a[i]);
        }
        return t.append(')').toString();
    }

    /** The call with all mixtures of the smallest and the greatest numbers that are taken. */
    private static void taken(House h, Face face, String asItWas) {
        int many = face.bounds().length / 2;
        for (int corner = 0; corner < 1 << many; corner++) {
            int[] a = new int[many];
            for (int i = 0; i < many; i++) {
                a[i] = face.bounds()[2 * i + (corner >> i & 1)];
            }
            ThreeAwake x = h.built();
            String call = told(h, face, a);
            Check.dueTrue(call + " is not BAD", face.call().of(x, a) != BAD);
            if (face.asks()) {
                Check.dueTrue(call + " changes nothing", Seen.inside(x, LANES).equals(asItWas));
            }
        }
    }

    /** The call with one of its numbers out of its bounds, the others at the end of theirs. */
    private static void refused(House h, Face face, String asItWas) {
        int many = face.bounds().length / 2;
        for (int odd = 0; odd < many; odd++) {
            int low = face.bounds()[2 * odd];
            int high = face.bounds()[2 * odd + 1];
            int[] out = {low - 1, high + 1, Integer.MIN_VALUE, Integer.MAX_VALUE, low - 256, high + 256, low - 65536, high + 65536};
            for (int v : out) {
                for (int end = 0; end < 2; end++) {
                    int[] a = new int[many];
                    for (int i = 0; i < many; i++) {
                        a[i] = face.bounds()[2 * i + end];
                    }
                    a[odd] = v;
                    // A SIZE below 0 has an answer of its own.
                    boolean size = face.name().equals("sheet") && odd == 2 && v < 0;
                    dueUnchanged(told(h, face, a), h.built(), face, a, size ? -14 : BAD, asItWas);
                }
            }
        }
    }

    private static void dueUnchanged(String call, ThreeAwake x, Face face, int[] a, long due, String asItWas) {
        Check.due(call, face.call().of(x, a), due);
        String is = Seen.inside(x, LANES);
        Check.dueTrue(call + " changes nothing", is.equals(asItWas));
    }

    private static void everyNumber() {
        House[] houses = {new House(1, 1), new House(2, 4), new House(3, 6)};
        for (House h : houses) {
            String asItWas = Seen.inside(h.built(), LANES);
            for (Face face : faces(h)) {
                taken(h, face, asItWas);
                refused(h, face, asItWas);
            }
        }
    }

    /** Of nobody there is no sister, no eye, and the one watch 0. */
    private static void nobody() {
        int[] numbers = {-1, 0, 1, Integer.MIN_VALUE, Integer.MAX_VALUE};
        for (int v : numbers) {
            ThreeAwake x = new ThreeAwake();
            String asItWas = Seen.outside(x);
            Check.due("sister of nobody", x.sister(v, 0), BAD);
            Check.due("eye of nobody", x.eye(v, 0), BAD);
            Check.due("turn of nobody", x.turn(v, 0), BAD);
            Check.due("tire of nobody", x.tire(v, 0), BAD);
            Check.due("tired of nobody", x.tired(v, 0), BAD);
            Check.due("rest of nobody", x.rest(v), BAD);
            Check.due("without of nobody", x.without(v), BAD);
            Check.due("tell of nobody", x.tell(0, v), v == 0 ? 0 : BAD);
            Check.due("sees of nobody", x.sees(0, v), v == 0 ? 0 : BAD);
            Check.due("lawful of nobody", x.lawful(0, v), v == 0 ? 1 : BAD);
            Check.due("late of nobody", x.late(0, v, 1), v == 0 ? 0 : BAD);
            Check.dueTrue("nothing is changed of nobody", Seen.outside(x).equals(asItWas));
        }
    }

    /** Other answers than BAD that refuse. */
    private static void otherRefusals() {
        House h = new House(2, 4);
        String asItWas = Seen.inside(h.built(), LANES);
        Object[][] rows = {
            {"lay of nothing", -11, (Call) (x, a) -> x.lay(3, 0, 5)},
            {"lay below the cells", -12, (Call) (x, a) -> x.lay(0, -1, 5)},
            {"lay behind the cells", -12, (Call) (x, a) -> x.lay(0, 7, 5)},
            {"lay in no cells", -12, (Call) (x, a) -> x.lay(2, 0, 5)},
            {"tire of glass", BAD, (Call) (x, a) -> x.tire(0, 0)},
            {"tire of glass by more", BAD, (Call) (x, a) -> x.tire(0, 9)},
        };
        for (Object[] row : rows) {
            Face face = new Face((String) row[0], false, (Call) row[2]);
            dueUnchanged(face.name(), h.built(), face, new int[0], (Integer) row[1], asItWas);
        }
        ThreeAwake whole = h.built();
        whole.lay(0, 3, 9);
        String then = Seen.outside(whole);
        Check.due("read of what is BAD", whole.read(0, 0, 0, 2), -21);
        Check.dueTrue("read of what is BAD changes nothing", Seen.outside(whole).equals(then));
    }

    private static void fullAndNone() {
        House h = new House(2, 4);
        ThreeAwake x = h.built();
        for (int i = 2; i < 8; i++) {
            x.hear(1, 1, i % 2 == 0);
        }
        String then = Seen.outside(x);
        Check.due("hear when 8 are", x.hear(0, 0, true), FULL);
        Check.due("hear when 8 are, BAD ahead of FULL", x.hear(4, 0, true), BAD);
        Check.due("hear when 8 are, BAD ahead of FULL", x.hear(0, 4, true), BAD);
        Check.dueTrue("FULL changes nothing", Seen.outside(x).equals(then));

        ThreeAwake tape = h.built();
        tape.end(0);
        Check.put(tape, " ".repeat(304) + "need 2 4;");
        Check.due("feed of a tape of 313", tape.feed(-1L), FULL);
        Check.due("313 stay", tape.count(2), 313);
        Check.due("what is on it stays", tape.text(), 1);
        Check.due("and is taken", tape.needed(2, 0), 4);

        ThreeAwake none = Check.told("sister plain 1 2 3 4;watch 1 2;");
        String before = Seen.outside(none);
        Check.due("back(0) of none", none.back(0), STATE);
        Check.due("back(1) of none", none.back(1), STATE);
        Check.due("back(2) of none, BAD ahead of STATE", none.back(2), BAD);
        Check.dueTrue("STATE changes nothing", Seen.outside(none).equals(before));
    }

    /** Of a text that is refused all stays, but the tape is empty and the fault is told. */
    private static void refusedText() {
        House h = new House(2, 4);
        ThreeAwake empty = h.built();
        empty.end(0);
        String asItWas = Seen.inside(empty, LANES);
        // All by fault 2, which is the fault that was there.
        String[] texts = {"z", "quarters 6", "sister plain 1 1 1 1;quarters 2;need 0 5;storm 1 1;watch 1 1;bed 0 3;;"};
        for (String text : texts) {
            ThreeAwake x = h.built();
            x.end(0);
            Check.put(x, text);
            Check.dueTrue("[" + text + "] is refused", x.text() <= -10);
            Check.dueTrue("[" + text + "] changes nothing", Seen.inside(x, LANES).equals(asItWas));
        }
    }

    public static void main(String[] args) {
        everyNumber();
        nobody();
        otherRefusals();
        fullAndNone();
        refusedText();
        Check.finish();
    }
}

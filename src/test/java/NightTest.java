/** Promises 19 to 23: tired, open, missed, wreck, rest. */
public final class NightTest {
    private static final int[] FAR = {-1, 6, Integer.MIN_VALUE, Integer.MAX_VALUE};
    private static final int BAD = ThreeAwake.BAD, NONE = ThreeAwake.NONE;

    /** Eye 1 falls shut at once, eye 3, of a visitor, behind one quarter. */
    private static ThreeAwake two() {
        return Check.told("sister plain 15 15 8 9;sister visitor 15 15 0 7;watch 0 1;watch 1 7;need 0 3;");
    }

    private static void promise19Tired() {
        ThreeAwake x = two();
        int[][] behind = {{6, 7, 2, 9}, {4, 8, 4, 7}, {5, 9, 6, 9}, {6, 7, 8, 7}};
        for (int q = 0; q < 4; q++) {
            for (int e = 0; e < 4; e++) {
                Check.due("tired(" + e + ", " + q + ")", x.tired(e, q), behind[q][e]);
            }
        }
        Check.due("as told before the night", x.eye(0, 1), 8);
        Check.due("tired(4, 0)", x.tired(4, 0), BAD);
        Check.due("tired(0, 4)", x.tired(0, 4), BAD);
        ThreeAwake y = Check.told("sister visitor 1 1 8 1;sister glass 1 1 9 0;watch 0 2;");
        Check.due("a visitor at most 9", y.tired(0, 0), 9);
        Check.due("none below 0", y.tired(1, 0), 0);
        Check.due("a glass eye", y.tired(2, 3), 0);
        Check.due("her other eye", y.tired(3, 3), 4);
        for (int far : FAR) {
            Check.due("tired(" + far + ", 0)", x.tired(far, 0), BAD);
            Check.due("tired(0, " + far + ")", x.tired(0, far), BAD);
        }
    }

    private static void promise20Open() {
        ThreeAwake x = two();
        int[] open = {12, 6, 15, 5};
        for (int q = 0; q < 4; q++) {
            Check.due("open(" + q + ")", x.open(q), open[q]);
        }
        x.tire(0, 9);
        x.tell(0, 0);
        Check.due("both of one are shut", x.open(0), 12);
        Check.due("open(4)", x.open(4), BAD);
        for (int far : FAR) {
            Check.due("open(" + far + ")", x.open(far), BAD);
        }
        ThreeAwake glass = Check.told("sister glass 15 15 0 0;watch 1 1;watch 2 2;");
        Check.due("glass, open(0)", glass.open(0), 2);
        Check.due("glass, open(1)", glass.open(1), 2);
        Check.due("glass, open(2)", glass.open(2), 0);
        Check.due("open(0) of nobody", new ThreeAwake().open(0), 0);
    }

    private static void promise21Missed() {
        ThreeAwake x = two();
        int[] missed = {1, 1, 0, 1};
        for (int q = 0; q < 4; q++) {
            Check.due("missed(" + q + ")", x.missed(q), missed[q]);
        }
        x.storm(2, 3, true);
        x.need(3, 4);
        Check.due("missed(2) in a storm", x.missed(2), 8);
        Check.due("missed(0), two sides", x.missed(0), 9);
        Check.due("missed(4)", x.missed(4), BAD);
        for (int far : FAR) {
            Check.due("missed(" + far + ")", x.missed(far), BAD);
        }
        Check.due("a dreamer's eyes count half", Check.told("sister dreamer 1 1 9 9;need 0 1;").missed(0), 0);
        Check.due("others' do not", Check.told("sister plain 1 1 9 9;need 0 1;").missed(0), 1);
    }

    private static void promise22Wreck() {
        ThreeAwake x = two();
        Check.due("wreck()", x.wreck(), 0);
        x.need(0, 2);
        Check.due("wreck() of need 2", x.wreck(), NONE);
        x.storm(3, 0, true);
        Check.due("wreck() of a storm", x.wreck(), 3);
        x.storm(1, 1, true);
        Check.due("wreck(): a storm that is seen", x.wreck(), 3);
        Check.due("wreck() of nobody", new ThreeAwake().wreck(), NONE);
        ThreeAwake later = Check.told("sister plain 1 0 8 0;quarters 1;need 0 1;");
        Check.due("wreck(): the eye falls shut behind the night", later.wreck(), NONE);
        ThreeAwake longest = Check.told("sister plain 1 0 4 0;quarters 6;need 0 1;");
        Check.due("wreck() of the last quarter", longest.wreck(), 5);
        longest.tire(0, 3);
        Check.due("wreck() of none of six", longest.wreck(), NONE);
        ThreeAwake short1 = Check.told("sister plain 1 1 9 9;quarters 1;");
        Check.due("wreck() of no need", short1.wreck(), NONE);
    }

    private static void promise23Rest() {
        ThreeAwake x = two();
        int[] rests = {2, 0, 0, 1};
        for (int e = 0; e < 4; e++) {
            Check.due("rest(" + e + ")", x.rest(e), rests[e]);
        }
        Check.due("rest(4)", x.rest(4), BAD);
        for (int far : FAR) {
            Check.due("rest(" + far + ")", x.rest(far), BAD);
        }
        ThreeAwake six = Check.told("sister plain 15 15 0 0;quarters 6;watch 0 1;watch 5 1;");
        Check.due("rest(0) in six quarters", six.rest(0), 2);
        // By the watches as told, a glass eye rests where the figure says so.
        ThreeAwake glass = Check.told("sister glass 15 15 0 0;watch 0 1;watch 1 2;watch 2 2;");
        Check.due("rest(0), glass", glass.rest(0), 1);
        Check.due("rest(1), her other eye", glass.rest(1), 2);
    }

    public static void main(String[] args) {
        promise19Tired();
        promise20Open();
        promise21Missed();
        promise22Wreck();
        promise23Rest();
        Check.finish();
    }
}

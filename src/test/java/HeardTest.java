/** Promises 31 to 33: hear, forget, fits. */
public final class HeardTest {
    private static final int[] FAR = {-1, 9, Integer.MIN_VALUE, Integer.MAX_VALUE};
    private static final int BAD = ThreeAwake.BAD, NONE = ThreeAwake.NONE;

    private static ThreeAwake two() {
        return Check.told("sister plain 1 2 0 0;sister dreamer 4 8 0 0;quarters 2;");
    }

    private static void dueFits(ThreeAwake x, int q, int... answers) {
        for (int what = 0; what < 4; what++) {
            Check.due("fits(" + q + ", " + what + ")", x.fits(q, what), answers[what]);
        }
    }

    private static void promise31Hear() {
        ThreeAwake x = two();
        Check.due("hear(2, 0, true)", x.hear(2, 0, true), BAD);
        Check.due("hear(0, 4, true)", x.hear(0, 4, true), BAD);
        for (int far : FAR) {
            Check.due("hear(" + far + ", 0, true)", x.hear(far, 0, true), BAD);
            Check.due("hear(0, " + far + ", true)", x.hear(0, far, true), BAD);
        }
        Check.due("nothing is heard", x.count(0), 0);
        for (int n = 1; n <= 8; n++) {
            Check.due("hear number " + n, x.hear(n % 2, n % 4, true), n);
        }
        Check.due("hear number 9", x.hear(0, 0, true), ThreeAwake.FULL);
        Check.due("hear number 9, bad", x.hear(2, 0, true), BAD);
        Check.due("8 are heard", x.count(0), 8);
    }

    private static void promise32Forget() {
        ThreeAwake x = two();
        Check.due("forget(0) of none", x.forget(0), 0);
        Check.due("forget(1) of none", x.forget(1), BAD);
        x.hear(0, 0, false);
        x.hear(0, 1, false);
        x.hear(0, 2, true);
        for (int far : FAR) {
            Check.due("forget(" + far + ")", x.forget(far), BAD);
        }
        Check.due("forget(4)", x.forget(4), BAD);
        Check.due("none fits", x.fits(0, 0), 0);
        Check.due("forget(3)", x.forget(3), 3);
        Check.due("forget(1)", x.forget(1), 3);
        Check.due("the first is left", x.fits(0, 0), 3);
        Check.due("forget(0)", x.forget(0), 1);
        Check.due("all fit", x.fits(0, 0), 9);
    }

    private static void promise33Fits() {
        ThreeAwake x = two();
        x.hear(0, 0, false);
        dueFits(x, 0, 3, 1, 1, 2);
        dueFits(x, 1, 9, 0, 0, 0);
        x.hear(1, 1, true);
        dueFits(x, 1, 6, 0, 0, 2);
        x.hear(0, 2, false);
        dueFits(x, 0, 0, NONE, NONE, NONE);
        x.forget(2);
        x.turn(0, 1);
        dueFits(x, 0, 9, 0, 0, 0);
        dueFits(x, 1, 6, 0, 0, 1);
        Check.due("fits(2, 0)", x.fits(2, 0), BAD);
        Check.due("fits(0, 4)", x.fits(0, 4), BAD);
        for (int far : FAR) {
            Check.due("fits(" + far + ", 0)", x.fits(far, 0), BAD);
            Check.due("fits(0, " + far + ")", x.fits(0, far), BAD);
        }
        ThreeAwake glass = Check.told("sister glass 15 1 0 0;");
        glass.hear(0, 0, false);
        dueFits(glass, 0, 1, 2, 2, 1);
        glass.hear(1, 0, true);
        dueFits(glass, 1, 2, 0, 0, 2);
        dueFits(Check.told("sister plain 0 0 0 0;"), 0, 3, 0, 0, 0);
        dueFits(new ThreeAwake(), 0, 1, 0, 0, 0);
        // No eye sees by a watch what is shut, however tired it is.
        ThreeAwake tired = Check.told("sister plain 1 1 9 9;");
        tired.hear(0, 0, true);
        dueFits(tired, 0, 3, 0, 0, 0);
    }

    /** Above 0: by half an eye, too. Of no watch, of one, of all but one, of all. */
    private static void atTheEnds() {
        ThreeAwake half = Check.told("sister dreamer 1 1 0 0;");
        half.hear(0, 0, true);
        dueFits(half, 0, 3, 0, 0, 0);
        half.hear(0, 0, false);
        dueFits(half, 0, 0, NONE, NONE, NONE);
        dueFits(half, 1, 3, 0, 0, 0);
        ThreeAwake x = Check.told("sister plain 1 2 0 0;sister plain 4 8 0 0;sister plain 0 1 0 0;quarters 6;");
        x.hear(5, 0, false);
        // The north is not seen if eye 0 and eye 5 are shut: 19, 22, 25.
        dueFits(x, 5, 3, 19, 33, 18);
        x.hear(5, 3, false);
        dueFits(x, 5, 1, 25, 41, 22);
        x.hear(5, 2, false);
        dueFits(x, 5, 0, NONE, NONE, NONE);
        x.forget(0);
        x.hear(5, 0, true);
        dueFits(x, 5, 24, 0, 0, 0);
        dueFits(x, 0, 27, 0, 0, 0);
        ThreeAwake nobody = new ThreeAwake();
        nobody.hear(3, 3, false);
        dueFits(nobody, 3, 1, 0, 0, 0);
        nobody.hear(3, 3, true);
        dueFits(nobody, 3, 0, NONE, NONE, NONE);
    }

    /** Eight are heard, no ninth; each of the eight counts; behind a forgotten one there is room. */
    private static void eight() {
        ThreeAwake x = two();
        for (int n = 1; n <= 7; n++) {
            x.hear(0, 0, true);
        }
        Check.due("seven are so by 6", x.fits(0, 0), 6);
        Check.due("hear, the eighth", x.hear(0, 1, false), 8);
        dueFits(x, 0, 3, 2, 2, 1);
        Check.due("hear, the ninth", x.hear(0, 3, false), ThreeAwake.FULL);
        dueFits(x, 0, 3, 2, 2, 1);
        Check.due("forget(9)", x.forget(9), BAD);
        Check.due("forget(8)", x.forget(8), 8);
        dueFits(x, 0, 3, 2, 2, 1);
        Check.due("forget(7)", x.forget(7), 8);
        Check.due("the eighth is forgotten", x.fits(0, 0), 6);
        Check.due("forget(8) of 7", x.forget(8), BAD);
        Check.due("hear, the eighth again", x.hear(0, 0, false), 8);
        dueFits(x, 0, 0, NONE, NONE, NONE);
        Check.due("forget(0) of 8", x.forget(0), 8);
        Check.due("forget(0) of 0", x.forget(0), 0);
        Check.due("hear, the first again", x.hear(1, 1, true), 1);
        dueFits(x, 0, 9, 0, 0, 0);
        dueFits(x, 1, 6, 0, 0, 2);
    }

    public static void main(String[] args) {
        atTheEnds();
        eight();
        promise31Hear();
        promise32Forget();
        promise33Fits();
        Check.finish();
    }
}

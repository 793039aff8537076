/** Promises 29 and 30: odds, mean. */
public final class SleepTest {
    private static final int[] FAR = {-1, 4, Integer.MIN_VALUE, Integer.MAX_VALUE};
    private static final int BAD = ThreeAwake.BAD;

    private static void dueOdds(ThreeAwake x, int side, int q, long up, long down) {
        Check.due("odds(" + side + ", " + q + ", 0)", x.odds(side, q, 0), up);
        Check.due("odds(" + side + ", " + q + ", 1)", x.odds(side, q, 1), down);
    }

    private static void dueMean(ThreeAwake x, int q, long up, long down) {
        Check.due("mean(" + q + ", 0)", x.mean(q, 0), up);
        Check.due("mean(" + q + ", 1)", x.mean(q, 1), down);
    }

    private static void promise29Odds() {
        ThreeAwake x = Check.told("sister plain 1 2 3 4;need 0 1;need 1 1;quarters 2;");
        dueOdds(x, 0, 0, 3, 10);
        dueOdds(x, 1, 0, 2, 5);
        dueOdds(x, 2, 0, 0, 1);
        dueOdds(x, 0, 1, 2, 5);
        dueOdds(x, 1, 1, 1, 2);
        x.need(0, 2);
        dueOdds(x, 0, 0, 1, 1);
        x.need(0, 0);
        x.storm(1, 0, true);
        dueOdds(x, 0, 1, 2, 5);
        dueOdds(Check.told("sister plain 1 1 5 5;need 0 1;"), 0, 0, 1, 4);
        dueOdds(Check.told("sister dreamer 1 1 5 5;need 0 1;"), 0, 0, 0, 1);
        dueOdds(Check.told("sister dreamer 1 1 5 5;need 0 2;"), 0, 0, 3, 4);
        dueOdds(Check.told("sister plain 1 1 5 5;need 0 1;watch 0 1;"), 0, 0, 1, 2);
        dueOdds(Check.told("sister plain 1 1 9 5;need 0 1;"), 0, 0, 1, 2);
        dueOdds(Check.told("sister glass 1 1 9 7;need 0 1;"), 0, 0, 7, 10);
        dueOdds(Check.told("sister visitor 1 0 6 0;need 0 1;quarters 2;"), 0, 1, 4, 5);
        dueOdds(new ThreeAwake(), 0, 0, 0, 1);
        String tired = "sister plain 1 1 7 7;sister plain 1 1 7 7;sister plain 1 1 7 7;";
        dueOdds(Check.told(tired + "need 0 1;"), 0, 0, 117649, 1000000);
        Check.due("odds(0, 2, 0)", x.odds(0, 2, 0), BAD);
        Check.due("odds(0, 0, 2)", x.odds(0, 0, 2), BAD);
        for (int far : FAR) {
            Check.due("odds(" + far + ", 0, 0)", x.odds(far, 0, 0), BAD);
            Check.due("odds(0, " + far + ", 0)", x.odds(0, far, 0), BAD);
            Check.due("odds(0, 0, " + far + ")", x.odds(0, 0, far), BAD);
        }
    }

    private static void promise30Mean() {
        ThreeAwake x = Check.told("sister plain 1 2 3 4;need 0 1;need 1 1;quarters 2;");
        dueMean(x, 0, 7, 10);
        dueMean(x, 1, 9, 10);
        x.need(0, 2);
        dueMean(x, 0, 7, 5);
        x.need(1, 2);
        x.need(2, 1);
        x.need(3, 6);
        dueMean(x, 0, 4, 1);
        dueMean(new ThreeAwake(), 3, 0, 1);
        Check.due("mean(2, 0)", x.mean(2, 0), BAD);
        Check.due("mean(0, 2)", x.mean(0, 2), BAD);
        for (int far : FAR) {
            Check.due("mean(" + far + ", 0)", x.mean(far, 0), BAD);
            Check.due("mean(0, " + far + ")", x.mean(0, far), BAD);
        }
    }

    public static void main(String[] args) {
        promise29Odds();
        promise30Mean();
        Check.finish();
    }
}

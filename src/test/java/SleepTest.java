/** Promises 29 and 30: odds, mean. */
public final class SleepTest {
    private static final int[] FAR = {-1, 4, Integer.MIN_VALUE, Integer.MAX_VALUE};
    private static final int BAD = ThreeAwake.BAD;

    private static void dueOdds(ThreeAwake x, int side, int q, long up, long down) {
        Check.due("odds(" + side + ", " + q + ", 0)", x.odds(side, q, 0), up);
        Check.due("odds(" + side + ", " + q + ", 1)", x.odds(side, q, 1), down);
    }

    private static void dueMean(ThreeAwake x, int q, long up, long down) {
        Check.due("mean(" + q + ", 0)", x.mean(q, 0), up);
        Check.due("mean(" + q + ", 1)", x.mean(q, 1), down);
    }

    private static void promise29Odds() {
        ThreeAwake x = Check.told("sister plain 1 2 3 4;need 0 1;need 1 1;quarters 2;");
        dueOdds(x, 0, 0, 3, 10);
        dueOdds(x, 1, 0, 2, 5);
        dueOdds(x, 2, 0, 0, 1);
        dueOdds(x, 0, 1, 2, 5);
        dueOdds(x, 1, 1, 1, 2);
        x.need(0, 2);
        dueOdds(x, 0, 0, 1, 1);
        x.need(0, 0);
        x.storm(1, 0, true);
        dueOdds(x, 0, 1, 2, 5);
        dueOdds(Check.told("sister plain 1 1 5 5;need 0 1;"), 0, 0, 1, 4);
        dueOdds(Check.told("sister dreamer 1 1 5 5;need 0 1;"), 0, 0, 0, 1);
        dueOdds(Check.told("sister dreamer 1 1 5 5;need 0 2;"), 0, 0, 3, 4);
        dueOdds(Check.told("sister plain 1 1 5 5;need 0 1;watch 0 1;"), 0, 0, 1, 2);
        dueOdds(Check.told("sister plain 1 1 9 5;need 0 1;"), 0, 0, 1, 2);
        dueOdds(Check.told("sister glass 1 1 9 7;need 0 1;"), 0, 0, 7, 10);
        dueOdds(Check.told("sister visitor 1 0 6 0;need 0 1;quarters 2;"), 0, 1, 4, 5);
        dueOdds(new ThreeAwake(), 0, 0, 0, 1);
        String tired = "sister plain 1 1 7 7;sister plain 1 1 7 7;sister plain 1 1 7 7;";
        dueOdds(Check.told(tired + "need 0 1;"), 0, 0, 117649, 1000000);
        Check.due("odds(0, 2, 0)", x.odds(0, 2, 0), BAD);
        Check.due("odds(0, 0, 2)", x.odds(0, 0, 2), BAD);
        for (int far : FAR) {
            Check.due("odds(" + far + ", 0, 0)", x.odds(far, 0, 0), BAD);
            Check.due("odds(0, " + far + ", 0)", x.odds(0, far, 0), BAD);
            Check.due("odds(0, 0, " + far + ")", x.odds(0, 0, far), BAD);
        }
    }

    private static void promise30Mean() {
        ThreeAwake x = Check.told("sister plain 1 2 3 4;need 0 1;need 1 1;quarters 2;");
        dueMean(x, 0, 7, 10);
        dueMean(x, 1, 9, 10);
        x.need(0, 2);
        dueMean(x, 0, 7, 5);
        x.need(1, 2);
        x.need(2, 1);
        x.need(3, 6);
        dueMean(x, 0, 4, 1);
        dueMean(new ThreeAwake(), 3, 0, 1);
        Check.due("mean(2, 0)", x.mean(2, 0), BAD);
        Check.due("mean(0, 2)", x.mean(0, 2), BAD);
        for (int far : FAR) {
            Check.due("mean(" + far + ", 0)", x.mean(far, 0), BAD);
            Check.due("mean(0, " + far + ")", x.mean(0, far), BAD);
        }
    }

    /** One eye, from never to always; two that see the same, two that see others. */
    private static void atTheEnds() {
        long[][] odds = {{0, 1}, {1, 10}, {1, 5}, {3, 10}, {2, 5}, {1, 2}, {3, 5}, {7, 10}, {4, 5}, {1, 1}};
        for (int v = 0; v <= 9; v++) {
            ThreeAwake x = Check.told("sister plain 1 0 " + v + " 9;sister plain 0 2 9 " + v + ";need 0 1;need 1 1;");
            dueOdds(x, 0, 0, odds[v][0], odds[v][1]);
            dueOdds(x, 1, 0, odds[v][0], odds[v][1]);
            dueOdds(x, 2, 0, 0, 1);
            x.need(1, 0);
            dueMean(x, 0, odds[v][0], odds[v][1]);
            x.need(3, 1);
            dueOdds(x, 3, 0, 1, 1);
            x.need(2, 1);
            x.need(1, 6);
            // Three sides are missed for certain, the north by its odds.
            dueMean(x, 0, odds[v][0] + 3 * odds[v][1], odds[v][1]);
            x.tell(0, 1);
            dueOdds(x, 0, 0, 1, 1);
            dueMean(x, 0, 4, 1);
            x.tell(0, 2);
            dueOdds(x, 0, 0, odds[v][0], odds[v][1]);
        }
        // Of all six eyes each is needed: none may fall shut; as it begins, not as it ends.
        ThreeAwake six = Check.told("sister plain 1 1 1 1;sister visitor 1 1 1 1;sister dreamer 1 1 1 1;need 0 6;");
        dueOdds(six, 0, 0, 468559, 1000000);
        dueMean(six, 0, 468559, 1000000);
        dueOdds(six, 0, 1, 12489, 15625);
        six.need(0, 0);
        dueOdds(six, 0, 3, 0, 1);
        dueMean(six, 3, 0, 1);
        six.need(0, 1);
        // Two dreaming eyes that are shut count as much as one that is open.
        dueOdds(six, 0, 0, 0, 1);
    }

    public static void main(String[] args) {
        promise29Odds();
        promise30Mean();
        atTheEnds();
        Check.finish();
    }
}

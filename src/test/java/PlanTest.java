/** Promises 24 to 28: round, best, without, beds, late. */
public final class PlanTest {
    private static final int[] FAR = {-1, 1, 9, 16, Integer.MIN_VALUE, Integer.MAX_VALUE};
    private static final int BAD = ThreeAwake.BAD, STATE = ThreeAwake.STATE, NONE = ThreeAwake.NONE;
    private static final String PLAIN = "sister plain 15 15 0 0;";
    private static final String GLASS = "sister glass 15 15 0 0;";

    private static void dueRound(String text, int... watches) {
        ThreeAwake x = Check.told(text);
        Check.due("round(0) of " + text, x.round(0), watches.length == 0 ? NONE : watches.length);
        for (int i = 0; i < 3; i++) {
            Check.due("round(1" + i + ") of " + text, x.round(10 + i), i < watches.length ? watches[i] : NONE);
        }
    }

    private static void promise24Round() {
        dueRound(PLAIN, 1, 2);
        dueRound(PLAIN + "need 0 1;storm 0 0;storm 1 1;storm 2 0;storm 3 0;", 1, 2);
        dueRound(PLAIN + "need 0 2;");
        dueRound(GLASS, 2);
        dueRound(GLASS + GLASS, 8);
        dueRound(GLASS + PLAIN, 3, 8);
        dueRound(GLASS + PLAIN + "need 0 2;", 2, 3, 6);
        dueRound(PLAIN + PLAIN + PLAIN + "need 0 4;need 2 4;", 4, 11, 24);
        dueRound(PLAIN + PLAIN + PLAIN + "need 0 5;");
        dueRound("sister dreamer 1 1 9 9;need 0 1;", 1, 2);
        ThreeAwake changing = Check.told(PLAIN);
        Check.due("round(0) of no need", changing.round(0), 2);
        changing.need(0, 2);
        Check.due("round(0) of a need", changing.round(0), NONE);
        ThreeAwake nobody = new ThreeAwake();
        Check.due("round(0) of nobody", nobody.round(0), STATE);
        Check.due("round(12) of nobody", nobody.round(12), STATE);
        Check.due("round(13) of nobody", nobody.round(13), BAD);
        ThreeAwake x = Check.told(PLAIN);
        Check.due("round(13)", x.round(13), BAD);
        for (int far : FAR) {
            Check.due("round(" + far + ")", x.round(far), BAD);
        }
    }

    private static void dueBest(String text, int least, int... watches) {
        ThreeAwake x = Check.told(text);
        Check.due("best(0) of " + text, x.best(0), least);
        for (int q = 0; q < x.rule(1); q++) {
            Check.due("best(1" + q + ") of " + text, x.best(10 + q), least == NONE ? NONE : watches[q]);
        }
        Check.due("best behind the quarters", x.best(10 + x.rule(1)), BAD);
    }

    private static void promise25Best() {
        dueBest(PLAIN, 2, 1, 1, 2, 2);
        dueBest(PLAIN + "quarters 1;", 0, 0);
        dueBest(PLAIN + "quarters 5;", 2, 0, 1, 1, 2, 2);
        dueBest(PLAIN + "need 0 1;storm 0 0;", 1, 0, 0, 1, 2);
        dueBest(PLAIN + "need 0 2;storm 3 0;", NONE);
        dueBest(PLAIN + "need 0 2;", 0, 0, 0, 0, 0);
        dueBest(PLAIN + "quarters 6;watch 0 2;", 3, 1, 1, 1, 2, 2, 2);
        dueBest(GLASS + "quarters 6;", 6, 2, 2, 2, 2, 2, 2);
        dueBest(GLASS + PLAIN + "quarters 2;", 1, 3, 8);
        dueBest(GLASS + "need 0 1;quarters 2;", 0, 0, 0);
        dueBest(PLAIN + PLAIN + PLAIN + "quarters 6;need 0 4;need 2 4;storm 2 0;storm 2 3;", 1, 0, 0, 0, 4, 11, 24);
        dueBest(PLAIN + PLAIN + PLAIN + "quarters 6;", 3, 13, 13, 13, 26, 26, 26);
        String watched = "need 0 1;need 1 2;need 2 1;need 3 2;storm 1 3;storm 2 0;quarters 5;";
        dueBest(GLASS + PLAIN + "sister dreamer 15 1 0 0;" + watched, 2, 2, 21, 12, 15, 26);
        dueBest("quarters 3;", 3, 0, 0, 0);
        dueBest("need 3 1;", NONE);
        ThreeAwake x = Check.told(PLAIN + "quarters 6;");
        for (int far : FAR) {
            Check.due("best(" + far + ")", x.best(far), BAD);
        }
        Check.due("the watches are as told", x.watch(0), 0);
    }

    private static void promise26Without() {
        ThreeAwake x = Check.told(PLAIN + "sister plain 1 1 0 0;need 1 1;bed 1 1;");
        Check.due("without(0)", x.without(0), 2);
        x.turn(1, 0);
        Check.due("without(0): nobody sees east", x.without(0), NONE);
        Check.due("without(1)", x.without(1), 2);
        Check.due("without(2)", x.without(2), BAD);
        for (int far : FAR) {
            Check.due("without(" + far + ")", x.without(far), far == 1 ? 2 : BAD);
        }
        ThreeAwake three = Check.told("sister plain 1 1 0 0;sister plain 1 1 0 0;sister plain 2 2 0 0;need 0 2;need 1 1;");
        Check.due("best(0) of three", three.best(0), 2);
        Check.due("without(0) of three", three.without(0), 0);
        Check.due("without(1) of three", three.without(1), 0);
        Check.due("without(2) of three", three.without(2), NONE);
        Check.due("best(0) of three again", three.best(0), 2);
        Check.due("both are there still", x.rule(0), 2);
        ThreeAwake only = Check.told(PLAIN + "quarters 5;");
        Check.due("best(0) of the only one", only.best(0), 2);
        Check.due("without(0) behind best", only.without(0), 5);
        Check.due("without the only one", Check.told(PLAIN + "quarters 5;").without(0), 5);
        Check.due("without the only one, in need", Check.told(PLAIN + "need 0 1;").without(0), NONE);
        Check.due("only glass is left", Check.told(PLAIN + GLASS).without(0), 4);
        Check.due("without(0) of nobody", new ThreeAwake().without(0), BAD);
    }

    private static void promise27Beds() {
        ThreeAwake x = Check.told("sister plain 1 2 0 0;need 2 1;need 3 1;");
        Check.due("best(0) as she lies", x.best(0), NONE);
        Check.due("beds(0)", x.beds(0), 0);
        Check.due("beds(10)", x.beds(10), 2);
        Check.due("she lies as she lay", x.sister(0, 1), 0);
        Check.due("beds(11)", x.beds(11), BAD);
        for (int far : FAR) {
            Check.due("beds(" + far + ")", x.beds(far), BAD);
        }
        x.need(2, 2);
        Check.due("beds(0) by none", x.beds(0), NONE);
        Check.due("beds(10) by none", x.beds(10), NONE);
        Check.due("beds(11) by none", x.beds(11), BAD);
        ThreeAwake y = Check.told("sister plain 1 1 0 0;sister plain 1 1 0 0;need 0 1;need 1 1;bed 0 3;bed 1 2;");
        Check.due("beds(0) of two", y.beds(0), 2);
        Check.due("beds(10) of two: the first by sisters", y.beds(10), 0);
        Check.due("beds(11) of two", y.beds(11), 1);
        ThreeAwake z = Check.told(PLAIN + PLAIN + "sister glass 0 1 0 0;need 3 5;");
        Check.due("beds(0) of three", z.beds(0), 0);
        Check.due("beds(10) of three", z.beds(10), 0);
        Check.due("beds(12) of three", z.beds(12), 3);
        ThreeAwake far = Check.told("sister plain 1 1 0 0;sister plain 2 2 0 0;sister plain 1 1 0 0;need 3 2;need 2 4;");
        Check.due("beds(0) of three, far", far.beds(0), 0);
        Check.due("beds(10) of three, far", far.beds(10), 2);
        Check.due("beds(11) of three, far", far.beds(11), 1);
        Check.due("beds(12) of three, far", far.beds(12), 3);
        far.need(2, 2);
        far.need(1, 2);
        far.need(3, 1);
        Check.due("beds(0) of three, apart", far.beds(0), 0);
        Check.due("beds(10) of three, apart", far.beds(10), 1);
        Check.due("beds(11) of three, apart", far.beds(11), 1);
        Check.due("beds(12) of three, apart", far.beds(12), 3);
        ThreeAwake nobody = new ThreeAwake();
        Check.due("beds(0) of nobody", nobody.beds(0), 4);
        Check.due("beds(10) of nobody", nobody.beds(10), BAD);
        nobody.need(0, 1);
        Check.due("beds(0) of nobody in need", nobody.beds(0), NONE);
    }

    private static void promise28Late() {
        ThreeAwake x = Check.told(PLAIN + PLAIN + PLAIN + "need 0 4;storm 1 0;storm 2 0;storm 2 1;need 1 6;quarters 3;");
        Check.due("a seventh eye is needed", x.late(2, 26, 0), NONE);
        Check.due("its watch", x.late(2, 26, 1), NONE);
        x.need(1, 0);
        Check.due("late(0, 26, 0)", x.late(0, 26, 0), 1);
        Check.due("late(0, 26, 1)", x.late(0, 26, 1), 8);
        Check.due("late(1, 26, 0) in a storm", x.late(1, 26, 0), 2);
        Check.due("late(1, 26, 1) in a storm", x.late(1, 26, 1), 2);
        Check.due("late(1, 15, 1): 0, 2, 1", x.late(1, 15, 1), 6);
        Check.due("late(0, 5, 0): lawful", x.late(0, 5, 0), 0);
        Check.due("late(0, 5, 1): lawful", x.late(0, 5, 1), 5);
        Check.due("late(0, 26, 2)", x.late(0, 26, 2), BAD);
        Check.due("late(3, 26, 0)", x.late(3, 26, 0), BAD);
        Check.due("late(0, 27, 0)", x.late(0, 27, 0), BAD);
        int[] out = {-1, Integer.MIN_VALUE, Integer.MAX_VALUE};
        for (int far : out) {
            Check.due("late(" + far + ", 0, 0)", x.late(far, 0, 0), BAD);
            Check.due("late(0, " + far + ", 0)", x.late(0, far, 0), BAD);
            Check.due("late(0, 0, " + far + ")", x.late(0, 0, far), BAD);
        }
        // Of all sets of one the lowest number: sister 0 can not help, sister 2 lowers it more.
        ThreeAwake y = Check.told("sister plain 2 2 0 0;sister plain 1 1 0 0;sister plain 1 1 0 0;need 0 3;");
        Check.due("late(0, 13, 0)", y.late(0, 13, 0), 1);
        Check.due("late(0, 13, 1)", y.late(0, 13, 1), 4);
        Check.due("late(0, 3, 1)", y.late(0, 3, 1), 3);
        Check.due("late(0, 0, 0) of nobody", new ThreeAwake().late(0, 0, 0), 0);
        Check.due("late(0, 1, 0) of nobody", new ThreeAwake().late(0, 1, 0), BAD);
    }

    public static void main(String[] args) {
        promise24Round();
        promise25Best();
        promise26Without();
        promise27Beds();
        promise28Late();
        Check.finish();
    }
}

/** Promises 6 to 15: rule, sister, eye, needed, watch; tell, need, storm, turn, tire. */
public final class ChangeTest {
    private static final int[] FAR = {-1, Integer.MIN_VALUE, Integer.MAX_VALUE};
    private static final int BAD = ThreeAwake.BAD;

    private static ThreeAwake two() {
        return Check.told("sister glass 15 9 5 6;sister dreamer 3 12 7 9;quarters 3;bed 1 1;need 2 6;storm 1 2;watch 1 5;");
    }

    private static void promise6Rule() {
        ThreeAwake x = two();
        Check.due("rule(0)", x.rule(0), 2);
        Check.due("rule(1)", x.rule(1), 3);
        Check.due("rule(2)", x.rule(2), BAD);
        for (int far : FAR) {
            Check.due("rule(" + far + ")", x.rule(far), BAD);
        }
    }

    private static void promise7Sister() {
        ThreeAwake x = two();
        Check.due("sister(0, 0)", x.sister(0, 0), 1);
        Check.due("sister(1, 0)", x.sister(1, 0), 3);
        Check.due("sister(0, 1)", x.sister(0, 1), 0);
        Check.due("sister(1, 1)", x.sister(1, 1), 1);
        Check.due("sister(2, 0)", x.sister(2, 0), BAD);
        Check.due("sister(0, 2)", x.sister(0, 2), BAD);
        for (int far : FAR) {
            Check.due("sister(" + far + ", 0)", x.sister(far, 0), BAD);
            Check.due("sister(0, " + far + ")", x.sister(0, far), BAD);
        }
        ThreeAwake z = Check.told("sister plain 1 2 3 4;");
        Check.due("eye(1, 0) of one", z.eye(1, 0), 2);
        Check.due("eye(2, 0) of one", z.eye(2, 0), BAD);
        ThreeAwake y = Check.told("sister visitor 0 0 0 0;sister plain 0 0 0 0;");
        Check.due("visitor", y.sister(0, 0), 2);
        Check.due("plain", y.sister(1, 0), 0);
    }

    private static void promise8Eye() {
        ThreeAwake x = two();
        Check.due("a glass eye sees nothing", x.eye(0, 0), 0);
        Check.due("a glass eye is not tired", x.eye(0, 1), 0);
        Check.due("eye(1, 0)", x.eye(1, 0), 9);
        Check.due("eye(1, 1)", x.eye(1, 1), 6);
        Check.due("north and east, turned by 1", x.eye(2, 0), 6);
        Check.due("south and west, turned by 1", x.eye(3, 0), 9);
        Check.due("eye(3, 1)", x.eye(3, 1), 9);
        x.turn(1, 3);
        Check.due("north and east, turned by 3", x.eye(2, 0), 9);
        Check.due("eye(4, 0)", x.eye(4, 0), BAD);
        Check.due("eye(0, 2)", x.eye(0, 2), BAD);
        for (int far : FAR) {
            Check.due("eye(" + far + ", 0)", x.eye(far, 0), BAD);
            Check.due("eye(1, " + far + ")", x.eye(1, far), BAD);
        }
    }

    private static void promise9Needed() {
        ThreeAwake x = two();
        Check.due("needed(2, 0)", x.needed(2, 0), 6);
        Check.due("needed(2, 1)", x.needed(2, 1), 7);
        Check.due("needed(1, 1)", x.needed(1, 1), 0);
        Check.due("needed(4, 0)", x.needed(4, 0), BAD);
        Check.due("needed(0, 3)", x.needed(0, 3), BAD);
        for (int far : FAR) {
            Check.due("needed(" + far + ", 0)", x.needed(far, 0), BAD);
            Check.due("needed(0, " + far + ")", x.needed(0, far), BAD);
        }
    }

    private static void promise10And11WatchAndTell() {
        ThreeAwake x = two();
        Check.due("watch(1)", x.watch(1), 5);
        Check.due("watch(0)", x.watch(0), 0);
        Check.due("watch(3)", x.watch(3), BAD);
        Check.due("tell(1, 8)", x.tell(1, 8), 5);
        Check.due("watch(1), told", x.watch(1), 8);
        Check.due("tell(1, 0)", x.tell(1, 0), 8);
        Check.due("tell(0, 9): there is no sister 2", x.tell(0, 9), BAD);
        Check.due("tell(3, 0)", x.tell(3, 0), BAD);
        for (int far : FAR) {
            Check.due("watch(" + far + ")", x.watch(far), BAD);
            Check.due("tell(" + far + ", 0)", x.tell(far, 0), BAD);
            Check.due("tell(0, " + far + ")", x.tell(0, far), BAD);
        }
        Check.due("watch(0), refused", x.watch(0), 0);
        ThreeAwake three = Check.told("sister plain 1 1 1 1;sister plain 1 1 1 1;sister plain 1 1 1 1;");
        Check.due("tell(0, 26)", three.tell(0, 26), 0);
        Check.due("tell(0, 27)", three.tell(0, 27), BAD);
        Check.due("watch(0) of three", three.watch(0), 26);
        ThreeAwake nobody = new ThreeAwake();
        Check.due("tell(0, 0) of nobody", nobody.tell(0, 0), 0);
        Check.due("tell(0, 1) of nobody", nobody.tell(0, 1), BAD);
    }

    private static void promise12Need() {
        ThreeAwake x = two();
        Check.due("need(2, 0)", x.need(2, 0), 6);
        Check.due("need(2, 6)", x.need(2, 6), 0);
        Check.due("need(2, 7)", x.need(2, 7), BAD);
        Check.due("need(4, 0)", x.need(4, 0), BAD);
        for (int far : FAR) {
            Check.due("need(" + far + ", 0)", x.need(far, 0), BAD);
            Check.due("need(2, " + far + ")", x.need(2, far), BAD);
        }
        Check.due("needed(2, 0)", x.needed(2, 0), 6);
        Check.due("needed(3, 0)", x.needed(3, 0), 0);
    }

    private static void promise13Storm() {
        ThreeAwake x = two();
        Check.due("storm(1, 2, true)", x.storm(1, 2, true), 1);
        Check.due("storm(1, 2, false)", x.storm(1, 2, false), 1);
        Check.due("storm(1, 2, false) again", x.storm(1, 2, false), 0);
        Check.due("storm(2, 3, true)", x.storm(2, 3, true), 0);
        Check.due("needed(3, 2)", x.needed(3, 2), 1);
        Check.due("needed(2, 2)", x.needed(2, 2), 6);
        Check.due("storm(3, 0, true)", x.storm(3, 0, true), BAD);
        Check.due("storm(0, 4, true)", x.storm(0, 4, true), BAD);
        for (int far : FAR) {
            Check.due("storm(" + far + ", 0, true)", x.storm(far, 0, true), BAD);
            Check.due("storm(0, " + far + ", true)", x.storm(0, far, true), BAD);
        }
        Check.due("storms", x.count(4), 1);
    }

    private static void promise14Turn() {
        ThreeAwake x = two();
        Check.due("turn(1, 3)", x.turn(1, 3), 1);
        Check.due("turn(1, 0)", x.turn(1, 0), 3);
        Check.due("turn(1, 4)", x.turn(1, 4), BAD);
        Check.due("turn(2, 0)", x.turn(2, 0), BAD);
        for (int far : FAR) {
            Check.due("turn(" + far + ", 0)", x.turn(far, 0), BAD);
            Check.due("turn(0, " + far + ")", x.turn(0, far), BAD);
        }
        Check.due("facing", x.sister(1, 1), 0);
        Check.due("as told", x.eye(2, 0), 3);
    }

    private static void promise15Tire() {
        ThreeAwake x = two();
        Check.due("tire(3, 0)", x.tire(3, 0), 9);
        Check.due("tire(3, 9)", x.tire(3, 9), 0);
        Check.due("tire(3, 10)", x.tire(3, 10), BAD);
        Check.due("tire(0, 0): glass", x.tire(0, 0), BAD);
        Check.due("tire(1, 2): her other eye", x.tire(1, 2), 6);
        Check.due("tire(4, 0)", x.tire(4, 0), BAD);
        for (int far : FAR) {
            Check.due("tire(" + far + ", 0)", x.tire(far, 0), BAD);
            Check.due("tire(1, " + far + ")", x.tire(1, far), BAD);
        }
        Check.due("eye(1, 1)", x.eye(1, 1), 2);
        Check.due("eye(0, 1)", x.eye(0, 1), 0);
    }

    public static void main(String[] args) {
        promise6Rule();
        promise7Sister();
        promise8Eye();
        promise9Needed();
        promise10And11WatchAndTell();
        promise12Need();
        promise13Storm();
        promise14Turn();
        promise15Tire();
        Check.finish();
    }
}

/** Promises 16 to 18: sees, lawful, asleep. */
public final class QuarterTest {
    private static final int[] FAR = {-1, Integer.MIN_VALUE, Integer.MAX_VALUE};
    private static final int BAD = ThreeAwake.BAD, NONE = ThreeAwake.NONE;

    /** Eye 1 sees north and west; of a dreamer, eye 2 north and east, eye 3 south and west. */
    private static ThreeAwake two() {
        return Check.told("sister glass 15 9 5 6;sister dreamer 3 12 7 9;quarters 3;need 0 1;need 2 1;storm 1 2;");
    }

    private static void promise16Sees() {
        ThreeAwake x = two();
        int[] north = {4, 4, 2, 3, 3, 1, 4, 4, 2};
        for (int w = 0; w < north.length; w++) {
            Check.due("sees(0, " + w + ")", x.sees(0, w), north[w]);
        }
        Check.due("sees(2, 0)", x.sees(2, 0), 2);
        Check.due("sees(2, 6)", x.sees(2, 6), 1);
        Check.due("sees(1, 3)", x.sees(1, 3), 1);
        Check.due("sees(3, 0)", x.sees(3, 0), 4);
        x.turn(1, 2);
        Check.due("sees(2, 0), turned: eye 2", x.sees(2, 0), 2);
        Check.due("sees(2, 3), turned: eye 2 shut", x.sees(2, 3), 1);
        x.tire(3, 9);
        Check.due("sees by the watch alone", x.sees(0, 0), 4);
        Check.due("sees(4, 0)", x.sees(4, 0), BAD);
        Check.due("sees(0, 9)", x.sees(0, 9), BAD);
        for (int far : FAR) {
            Check.due("sees(" + far + ", 0)", x.sees(far, 0), BAD);
            Check.due("sees(0, " + far + ")", x.sees(0, far), BAD);
        }
        ThreeAwake dreamers = Check.told("sister dreamer 1 2 0 0;sister plain 1 1 0 0;sister dreamer 2 1 0 0;");
        Check.due("two dreamers shut what sees north", dreamers.sees(0, 19), 6);
        Check.due("two dreamers shut both", dreamers.sees(0, 22), 4);
        Check.taken(dreamers, "sister plain 1 2 0 0;", 1);
        Check.due("none is a dreamer now", dreamers.sees(0, 1), 0);
        Check.taken(x, "sister plain 1 2 0 0;", 1);
        Check.due("none is glass now", x.sees(0, 0), 2);
        Check.due("sees(0, 0) of nobody", new ThreeAwake().sees(0, 0), 0);
    }

    private static void promise17Lawful() {
        ThreeAwake x = two();
        int[] calm = {1, 1, 1, 1, 1, 0, 0, 0, 0};
        for (int w = 0; w < calm.length; w++) {
            Check.due("lawful(0, " + w + ")", x.lawful(0, w), calm[w]);
            Check.due("lawful(1, " + w + ") in a storm", x.lawful(1, w), 0);
            Check.due("lawful(2, " + w + ")", x.lawful(2, w), calm[w]);
        }
        Check.due("lawful(3, 0)", x.lawful(3, 0), BAD);
        Check.due("lawful(0, 9)", x.lawful(0, 9), BAD);
        for (int far : FAR) {
            Check.due("lawful(" + far + ", 0)", x.lawful(far, 0), BAD);
            Check.due("lawful(0, " + far + ")", x.lawful(0, far), BAD);
        }
        ThreeAwake nobody = new ThreeAwake();
        Check.due("lawful(0, 0) of nobody", nobody.lawful(0, 0), 1);
        nobody.storm(0, 3, true);
        Check.due("lawful(0, 0) of nobody in a storm", nobody.lawful(0, 0), 0);
    }

    private static void promise18Asleep() {
        ThreeAwake x = two();
        Check.due("asleep(0, 0)", x.asleep(0, 0), 1);
        Check.due("asleep(0, 1): not 1, a glass eye", x.asleep(0, 1), 2);
        Check.due("asleep(1, 0) in a storm", x.asleep(1, 0), NONE);
        Check.due("asleep(1, 1) in a storm", x.asleep(1, 1), NONE);
        Check.due("asleep(0, 2)", x.asleep(0, 2), BAD);
        Check.due("asleep(3, 0)", x.asleep(3, 0), BAD);
        for (int far : FAR) {
            Check.due("asleep(" + far + ", 0)", x.asleep(far, 0), BAD);
            Check.due("asleep(1, " + far + ")", x.asleep(1, far), BAD);
        }
        ThreeAwake three = Check.told("sister plain 1 1 0 0;sister plain 1 1 0 0;sister plain 1 1 0 0;need 0 3;");
        Check.due("asleep of three", three.asleep(0, 0), 3);
        Check.due("the first such", three.asleep(0, 1), 13);
        Check.due("asleep of nobody", new ThreeAwake().asleep(0, 0), 0);
        Check.due("the first of nobody", new ThreeAwake().asleep(0, 1), 0);
    }

    public static void main(String[] args) {
        promise16Sees();
        promise17Lawful();
        promise18Asleep();
        Check.finish();
    }
}

import java.nio.charset.StandardCharsets;

/** What every test of the project does: compares answers, feeds texts, ends with a code. */
final class Check {
    private static int compared = 0;
    private static int wrong = 0;

    private Check() {
    }

    static void due(String call, long got, long want) {
        compared++;
        if (got != want) {
            wrong++;
            System.out.println(call + " answered " + got + ", due is " + want);
        }
    }

    static void dueTrue(String what, boolean holds) {
        due(what, holds ? 1 : 0, 1);
    }

    /** How many answers have been compared so far. */
    static int compared() {
        return compared;
    }

    /** Puts a text on the tape, whatever is on it. */
    static void put(ThreeAwake x, String text) {
        byte[] bytes = text.getBytes(StandardCharsets.ISO_8859_1);
        int before = x.count(2);
        for (int i = 0; i < bytes.length; i += 8) {
            long v = 0;
            for (int j = i; j < i + 8; j++) {
                v = v << 8 | (j < bytes.length ? bytes[j] & 255 : ' ');
            }
            x.feed(v);
        }
        x.end(before + bytes.length);
    }

    /** A new object by a text that must be taken. */
    static ThreeAwake told(String text) {
        ThreeAwake x = new ThreeAwake();
        put(x, text);
        int lines = x.text();
        dueTrue("text() of " + text + " (" + lines + ", fault " + x.fault() + ") is taken", lines >= 0);
        return x;
    }

    /** A text that must be refused by a fault at a place. */
    static void refused(ThreeAwake x, String text, int fault, int place) {
        put(x, text);
        due("text() of [" + text + "]", x.text(), -10 - place);
        due("fault() of [" + text + "]", x.fault(), fault);
        due("count(2) behind [" + text + "]", x.count(2), 0);
    }

    static void taken(ThreeAwake x, String text, int lines) {
        put(x, text);
        due("text() of [" + text + "]", x.text(), lines);
        due("fault() of [" + text + "]", x.fault(), 0);
        due("count(2) behind [" + text + "]", x.count(2), 0);
    }

    static void finish() {
        System.out.println(compared + " answers, " + wrong + " not as due");
        if (wrong != 0 || compared == 0) {
            System.exit(1);
        }
    }
}

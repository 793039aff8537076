/** An object is used for 512 calls: the last of them answers as the first, whatever was ahead. */
public final class CallsTest {
    private static final String TEXT = "sister plain 15 15 0 0;sister dreamer 3 12 1 2;need 0 2;";

    private interface Ahead {
        void call(ThreeAwake x, int i);
    }

    /** Behind 511 calls, the feeds of the text the first, back the last of them, the 512th answers. */
    private static void lastCalls(Ahead ahead) {
        int begun = TEXT.length() / 8 + 3;
        for (int last = 0; last < 6; last++) {
            ThreeAwake x = new ThreeAwake();
            for (int i = 0; i < TEXT.length() / 8; i++) {
                long v = 0;
                for (int j = 8 * i; j < 8 * i + 8; j++) {
                    v = v << 8 | TEXT.charAt(j);
                }
                x.feed(v);
            }
            x.text();
            x.sheet(0, 1, 40);
            x.keep(0);
            for (int i = begun; i < 510; i++) {
                ahead.call(x, i);
            }
            x.back(0);
            switch (last) {
                case 0 -> Check.due("the 512th: best(0)", x.best(0), 1);
                case 1 -> Check.due("the 512th: feed", x.feed(0), 8);
                case 2 -> Check.due("the 512th: mean", x.mean(0, 1), 1);
                case 3 -> Check.due("the 512th: beds(0)", x.beds(0), 1);
                case 4 -> Check.due("the 512th: hear", x.hear(0, 0, true), 1);
                default -> Check.due("the 512th: read", x.read(0, 1, 0, 13), 13);
            }
        }
    }

    public static void main(String[] args) {
        Check.due("the text is a number of eights", TEXT.length() % 8, 0);
        lastCalls((x, i) -> x.rule(0));
        lastCalls((x, i) -> x.beds(0));
        lastCalls((x, i) -> x.tell(i % 4, i % 9));
        lastCalls((x, i) -> x.hear(i % 4, i % 4, i % 2 == 0));
        lastCalls((x, i) -> x.sheet(1 + i % 3, i % 3, i % 41));
        lastCalls((x, i) -> x.mean(i % 4, 0));
        lastCalls((x, i) -> x.tire(i % 4, i % 10));
        lastCalls((x, i) -> x.round(0));
        lastCalls((x, i) -> x.without(i % 2));
        lastCalls((x, i) -> x.late(i % 4, i % 9, 1));
        Check.finish();
    }
}

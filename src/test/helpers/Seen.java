/** What can be seen of an object from outside, as one text: alike texts, alike objects. */
final class Seen {
    private Seen() {
    }

    /** What questions alone see: nothing is changed by them; at most 86 calls. */
    static String outside(ThreeAwake x) {
        StringBuilder seen = new StringBuilder();
        int sisters = x.rule(0);
        int quarters = x.rule(1);
        seen.append(sisters).append(" sisters, ").append(quarters).append(" quarters;");
        for (int s = 0; s < sisters; s++) {
            seen.append(" sister ").append(x.sister(s, 0)).append(' ').append(x.sister(s, 1));
        }
        for (int e = 0; e < 2 * sisters; e++) {
            seen.append(" eye ").append(x.eye(e, 0)).append(' ').append(x.eye(e, 1));
        }
        for (int q = 0; q < quarters; q++) {
            seen.append("; quarter ").append(x.watch(q));
            for (int side = 0; side < 4; side++) {
                seen.append(' ').append(x.needed(side, q));
            }
            seen.append(" fits");
            for (int what = 0; what < 4; what++) {
                seen.append(' ').append(x.fits(q, what));
            }
        }
        seen.append("; count");
        for (int what = 0; what < 6; what++) {
            seen.append(' ').append(x.count(what));
        }
        return seen.append("; torn ").append(x.torn()).append(", fault ").append(x.fault()).toString();
    }

    /**
     * What is inside, too: sheets (read into the watches), images (gone back to), the tape (taken);
     * the object is another one behind it. lanes: of each sheet. At most 400 calls.
     */
    static String inside(ThreeAwake x, int... lanes) {
        StringBuilder seen = new StringBuilder(outside(x));
        for (int k = 0; k < lanes.length; k++) {
            seen.append("\n sheet ").append(k).append(": ").append(x.read(k, lanes[k], 0, 3));
            seen.append(" torn ").append(x.torn());
            for (int q = 0; q < x.rule(1); q++) {
                seen.append(' ').append(x.watch(q));
            }
        }
        for (int k = 0; k < 2; k++) {
            seen.append("\n image ").append(k).append(": ").append(x.back(k)).append(' ').append(outside(x));
        }
        return seen.append("\n text: ").append(x.text()).append(' ').append(outside(x)).toString();
    }
}

/** What 'Terms' says of sisters, eyes, quarters, needs, nights, rounds: at each of its ends. */
public final class TermsTest {
    private static final int BAD = ThreeAwake.BAD, STATE = ThreeAwake.STATE, NONE = ThreeAwake.NONE;
    private static final String PLAIN = "sister plain 15 15 0 0;";
    private static final String GLASS = "sister glass 15 15 0 0;";
    private static final String THREE = PLAIN + PLAIN + PLAIN;

    private static int figure(int w, int s) {
        return s == 0 ? w % 3 : s == 1 ? w / 3 % 3 : w / 9;
    }

    private static int figuresAbove0(int w) {
        return (figure(w, 0) > 0 ? 1 : 0) + (figure(w, 1) > 0 ? 1 : 0) + (figure(w, 2) > 0 ? 1 : 0);
    }

    /** North becomes east, and so on; of west north. */
    private static void facing() {
        int[][] becomes = {{1, 2, 4, 8}, {2, 4, 8, 1}, {4, 8, 1, 2}, {8, 1, 2, 4}};
        for (int f = 0; f < 4; f++) {
            ThreeAwake x = Check.told("sister plain 1 2 0 0;sister dreamer 4 8 0 0;sister glass 15 7 0 0;bed 0 " + f + ";");
            x.turn(1, f);
            x.turn(2, f);
            for (int e = 0; e < 4; e++) {
                Check.due("eye " + e + " faced " + f, x.eye(e, 0), becomes[f][e]);
            }
            Check.due("a glass eye faced " + f, x.eye(4, 0), 0);
            Check.due("her other eye faced " + f, x.eye(5, 0), 15 - becomes[f][3]);
            for (int side = 0; side < 4; side++) {
                // Of her own and of each other eye what sees it as she lies.
                int glass = becomes[f][3] == 1 << side ? 0 : 2;
                Check.due("sees(" + side + ", 0) faced " + f, x.sees(side, 0), 2 + glass);
            }
        }
        ThreeAwake all = Check.told("sister plain 15 0 0 0;");
        for (int f = 0; f < 4; f++) {
            all.turn(0, f);
            Check.due("all sides faced " + f, all.eye(0, 0), 15);
            Check.due("no sides faced " + f, all.eye(1, 0), 0);
        }
    }

    /** All watches: which eyes are shut by their figures, which are open. */
    private static void watches() {
        ThreeAwake x = Check.told(THREE);
        ThreeAwake glass = Check.told(GLASS + GLASS + GLASS);
        for (int w = 0; w < 27; w++) {
            int open = 63;
            for (int s = 0; s < 3; s++) {
                open -= figure(w, s) == 0 ? 0 : figure(w, s) << 2 * s;
            }
            x.tell(0, w);
            glass.tell(0, w);
            Check.due("open(0) by " + w, x.open(0), open);
            Check.due("open(0) of glass by " + w, glass.open(0), open & 42);
            for (int e = 0; e < 6; e++) {
                Check.due("rest(" + e + ") by " + w, x.rest(e), 1 - (open >> e & 1));
            }
            Check.due("sees(0, " + w + ")", x.sees(0, w), 12 - 2 * figuresAbove0(w));
        }
        for (int sisters = 0; sisters <= 3; sisters++) {
            int all = new int[] {1, 3, 9, 27}[sisters];
            ThreeAwake y = Check.told(PLAIN.repeat(sisters));
            Check.due("watches of " + sisters, y.count(5), all);
            Check.due("the last of " + sisters, y.tell(3, all - 1), 0);
            Check.due("none behind it of " + sisters, y.tell(3, all), BAD);
            Check.due("none below 0 of " + sisters, y.tell(3, -1), BAD);
            Check.due("the last is told of " + sisters, y.watch(3), all - 1);
            Check.due("all fit of " + sisters, y.fits(3, 0), all);
        }
    }

    private static void quarters() {
        for (int quarters = 1; quarters <= 6; quarters++) {
            ThreeAwake x = Check.told(PLAIN + "quarters " + quarters + ";");
            int last = quarters - 1;
            Check.due("rule(1)", x.rule(1), quarters);
            Check.due("storm in the last", x.storm(last, 3, true), 0);
            Check.due("storm behind it", x.storm(quarters, 3, true), BAD);
            Check.due("needed in the last", x.needed(3, last), 1);
            Check.due("needed behind it", x.needed(3, quarters), BAD);
            Check.due("tell in the last", x.tell(last, 2), 0);
            Check.due("tell behind it", x.tell(quarters, 2), BAD);
            Check.due("tired behind the last", x.tired(1, last), Math.max(0, quarters - 3));
            Check.due("tired behind more", x.tired(1, quarters), BAD);
            Check.due("one storm", x.count(4), 1);
        }
    }

    /** From each number to the next: an eye that is shut, one that is open, of each kind. */
    private static void tiring() {
        int[] shut = {0, 0, 0, 1, 2, 3, 4, 5, 6, 7};
        int[] open = {1, 2, 3, 4, 5, 6, 7, 8, 9, 7};
        int[] visitors = {2, 3, 4, 5, 6, 7, 8, 9, 9, 7};
        for (int v = 0; v <= 9; v++) {
            String tired = " 15 15 " + v + " " + v + ";";
            ThreeAwake x = Check.told("sister plain" + tired + "sister visitor" + tired + "sister dreamer" + tired + "watch 0 14;quarters 1;");
            int[] due = {open[v], shut[v], shut[v], visitors[v], shut[v], open[v]};
            for (int e = 0; e < 6; e++) {
                Check.due("tired(" + e + ", 0) from " + v, x.tired(e, 0), due[e]);
            }
            Check.due("open(0) when tired by " + v, x.open(0), v == 9 ? 0 : 41);
            ThreeAwake glass = Check.told("sister glass" + tired + "watch 1 1;");
            for (int q = 0; q < 4; q++) {
                Check.due("a glass eye behind " + q, glass.tired(0, q), 0);
                Check.due("open(" + q + ") of glass", glass.open(q) & 1, 0);
            }
            Check.due("her other eye from " + v, glass.tired(1, 0), open[v]);
        }
        // Both of one are shut: one by the watch, one that is tired by 9.
        ThreeAwake both = Check.told("sister plain 15 15 9 8;watch 0 2;need 0 1;");
        Check.due("open(0) of both shut", both.open(0), 0);
        Check.due("missed(0) of both shut", both.missed(0), 1);
        Check.due("open(1), rested", both.open(1), 3);
        Check.due("tired by 9 at its end, not as it begins", Check.told("sister plain 15 15 8 8;quarters 1;").open(0), 3);
    }

    /** So many eyes as are needed, one less, one more; a storm needs one more. */
    private static void needs() {
        ThreeAwake x = Check.told(THREE + "storm 1 0;");
        for (int v = 0; v <= 6; v++) {
            x.need(0, v);
            Check.due("needed(0, 0)", x.needed(0, 0), v);
            Check.due("needed(0, 1) in a storm", x.needed(0, 1), v + 1);
            int[] byShut = {0, 1, 4, 13};
            for (int shut = 0; shut <= 3; shut++) {
                x.tell(0, byShut[shut]);
                x.tell(1, byShut[shut]);
                Check.due("lawful, need " + v + ", shut " + shut, x.lawful(0, byShut[shut]), 6 - shut >= v ? 1 : 0);
                Check.due("lawful in a storm, need " + v + ", shut " + shut, x.lawful(1, byShut[shut]), 6 - shut > v ? 1 : 0);
                Check.due("missed, need " + v + ", shut " + shut, x.missed(0), 6 - shut >= v ? 0 : 1);
                Check.due("missed in a storm", x.missed(1), 6 - shut > v ? 0 : 1);
            }
            Check.due("asleep, need " + v, x.asleep(0, 0), Math.min(3, 6 - v));
            Check.due("asleep in a storm, need " + v, x.asleep(1, 0), v == 6 ? NONE : Math.min(3, 5 - v));
            Check.due("asleep in a storm, the first", x.asleep(1, 1), new int[] {13, 13, 13, 4, 1, 0, NONE}[v]);
        }
    }

    /** A shut eye of a dreamer counts half: to be even is enough, to be one half less is not. */
    private static void dreamers() {
        String dreamer = "sister dreamer 15 15 0 0;";
        ThreeAwake x = Check.told(dreamer + dreamer + dreamer + "storm 1 0;");
        int[] byShut = {0, 1, 4, 13};
        for (int v = 0; v <= 6; v++) {
            x.need(0, v);
            for (int shut = 0; shut <= 3; shut++) {
                Check.due("sees of dreamers", x.sees(0, byShut[shut]), 12 - shut);
                Check.due("lawful of dreamers, need " + v, x.lawful(0, byShut[shut]), 12 - shut >= 2 * v ? 1 : 0);
                Check.due("lawful of dreamers in a storm", x.lawful(1, byShut[shut]), 12 - shut >= 2 * v + 2 ? 1 : 0);
            }
        }
        ThreeAwake blind = Check.told("sister dreamer 1 0 0 0;");
        Check.due("a shut eye that sees it", blind.sees(0, 1), 1);
        Check.due("a shut eye that does not", blind.sees(0, 2), 2);
        Check.due("another side", blind.sees(1, 1), 0);
    }

    private static void dueRound(String text, int... watches) {
        ThreeAwake x = Check.told(text);
        Check.due("round(0) of " + text, x.round(0), watches.length == 0 ? NONE : watches.length);
        for (int i = 0; i < 3; i++) {
            Check.due("round(1" + i + ") of " + text, x.round(10 + i), i < watches.length ? watches[i] : NONE);
        }
        Check.due("round(9) of " + text, x.round(9), BAD);
        Check.due("round(13) of " + text, x.round(13), BAD);
        Check.due("round(1) of " + text, x.round(1), BAD);
    }

    /** Of one quarter, of two, of three; four would be too many; quarters of a night are none. */
    private static void rounds() {
        String calm = "quarters 1;";
        dueRound(GLASS + calm, 2);
        dueRound(GLASS + GLASS + GLASS + calm, 26);
        dueRound(THREE + calm, 13, 26);
        dueRound(THREE + calm + "need 0 3;", 13, 26);
        dueRound(THREE + calm + "need 0 4;", 4, 11, 24);
        dueRound(THREE + calm + "need 0 5;");
        dueRound(THREE + calm + "need 0 6;");
        // Four eyes, of which one may be shut at once: four quarters.
        dueRound(PLAIN + PLAIN + calm + "need 0 3;");
        dueRound(PLAIN + GLASS + calm + "need 0 2;", 1, 2, 6);
        dueRound(PLAIN + GLASS + GLASS + calm + "need 0 3;");
        dueRound(PLAIN + calm + "need 0 1;storm 0 0;storm 0 1;storm 0 2;storm 0 3;", 1, 2);
        ThreeAwake nobody = new ThreeAwake();
        nobody.need(0, 6);
        int[] asked = {0, 10, 11, 12};
        for (int what : asked) {
            Check.due("round(" + what + ") of nobody: STATE ahead of NONE", nobody.round(what), STATE);
        }
        int[] bad = {-1, 1, 9, 13, Integer.MIN_VALUE, Integer.MAX_VALUE};
        for (int what : bad) {
            Check.due("round(" + what + ") of nobody: BAD ahead of STATE", nobody.round(what), BAD);
        }
    }

    /** In nights of 1 to 6 quarters: of nobody all, of a glass one all, of others half. */
    private static void best() {
        for (int quarters = 1; quarters <= 6; quarters++) {
            String night = "quarters " + quarters + ";";
            ThreeAwake nobody = Check.told(night);
            Check.due("best(0) of nobody", nobody.best(0), quarters);
            Check.due("beds(0) of nobody", nobody.beds(0), quarters);
            Check.due("best of nobody, the last", nobody.best(9 + quarters), 0);
            Check.due("best of nobody, behind it", nobody.best(10 + quarters), BAD);
            ThreeAwake glass = Check.told(GLASS + night);
            Check.due("best(0) of glass", glass.best(0), quarters);
            Check.due("beds(0) of glass", glass.beds(0), quarters);
            Check.due("without(0): nobody", glass.without(0), quarters);
            Check.due("best of glass, the last", glass.best(9 + quarters), 2);
            Check.due("best of glass, behind it", glass.best(10 + quarters), BAD);
            ThreeAwake three = Check.told(THREE + night);
            Check.due("best(0) of three", three.best(0), quarters / 2);
            Check.due("without(2) of three", three.without(2), quarters / 2);
            Check.due("best of three, the last", three.best(9 + quarters), quarters == 1 ? 0 : 26);
            ThreeAwake mixed = Check.told(GLASS + PLAIN + GLASS + night);
            Check.due("best(0), mixed", mixed.best(0), quarters / 2);
            Check.due("without(1), mixed: glass alone", mixed.without(1), quarters);
            // A storm that nobody can meet, in the last quarter: no lawful watches.
            three.need(3, 6);
            Check.due("best(0) in need of all", three.best(0), 0);
            three.storm(quarters - 1, 3, true);
            Check.due("best(0): none", three.best(0), NONE);
            Check.due("best, the last: none", three.best(9 + quarters), NONE);
            Check.due("best, behind it: BAD ahead of NONE", three.best(10 + quarters), BAD);
            Check.due("without(0): none", three.without(0), NONE);
            Check.due("without(3): BAD ahead of NONE", three.without(3), BAD);
            Check.due("beds(0): none", three.beds(0), NONE);
            Check.due("beds(12): none", three.beds(12), NONE);
            Check.due("beds(13): BAD ahead of NONE", three.beds(13), BAD);
            nobody.storm(quarters - 1, 0, true);
            Check.due("best(0) of nobody in a storm", nobody.best(0), NONE);
            Check.due("beds(0) of nobody in a storm", nobody.beds(0), NONE);
            Check.due("best(10) of nobody in a storm", nobody.best(10), NONE);
        }
    }

    /** Facings: each of the four, of each sister, is found; of alike ones the first. */
    private static void beds() {
        for (int f = 0; f < 4; f++) {
            for (int s = 0; s < 3; s++) {
                StringBuilder t = new StringBuilder();
                for (int i = 0; i < 3; i++) {
                    t.append(i == s ? "sister plain 1 1 0 0;" : "sister plain 0 0 0 0;");
                }
                ThreeAwake x = Check.told(t.append("need ").append(f).append(" 1;bed ").append(s).append(" 3;").toString());
                Check.due("beds(0)", x.beds(0), 2);
                for (int i = 0; i < 3; i++) {
                    Check.due("beds(1" + i + ") of sister " + s, x.beds(10 + i), i == s ? f : 0);
                    Check.due("she lies as she lay", x.sister(i, 1), i == s ? 3 : 0);
                }
            }
        }
        ThreeAwake alike = Check.told(THREE + "bed 0 3;bed 1 2;bed 2 1;");
        for (int s = 0; s < 3; s++) {
            Check.due("alike: the first", alike.beds(10 + s), 0);
        }
    }

    /** None must open, one, two, all; and it can not be. */
    private static void late() {
        ThreeAwake x = Check.told(THREE);
        int[][] opened = {{26, 26, 26, 26, 8, 2, 0, NONE}, {13, 13, 13, 13, 4, 1, 0, NONE}, {0, 0, 0, 0, 0, 0, 0, NONE}};
        int[] from = {26, 13, 0};
        for (int v = 0; v <= 7; v++) {
            x.need(0, Math.min(v, 6));
            x.storm(0, 0, v == 7);
            for (int i = 0; i < 3; i++) {
                int openers = from[i] == 0 || v <= 3 ? 0 : v - 3;
                Check.due("late(0, " + from[i] + ", 0), need " + v, x.late(0, from[i], 0), v == 7 ? NONE : openers);
                Check.due("late(0, " + from[i] + ", 1), need " + v, x.late(0, from[i], 1), opened[i][v]);
            }
        }
        Check.due("BAD ahead of NONE", x.late(0, 26, 2), BAD);
        // It helps no one that a glass eye is to open.
        ThreeAwake glass = Check.told("sister glass 15 1 0 0;sister plain 1 1 0 0;need 0 3;");
        Check.due("late of glass", glass.late(0, 4, 0), 1);
        Check.due("her glass eye stays shut", glass.late(0, 4, 1), 1);
        glass.need(1, 1);
        Check.due("a glass eye sees nothing", glass.late(0, 1, 0), NONE);
    }

    public static void main(String[] args) {
        facing();
        watches();
        quarters();
        tiring();
        needs();
        dreamers();
        rounds();
        best();
        beds();
        late();
        Check.finish();
    }
}

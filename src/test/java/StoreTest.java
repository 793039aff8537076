/** Promises 34 to 40: keep, back, sheet, lay, read, torn, count. */
public final class StoreTest {
    private static final int[] FAR = {-1, Integer.MIN_VALUE, Integer.MAX_VALUE};
    private static final int BAD = ThreeAwake.BAD, STATE = ThreeAwake.STATE, NONE = ThreeAwake.NONE;
    private static final String TWO = "sister plain 1 2 3 4;sister plain 4 8 0 0;";

    private static ThreeAwake changed() {
        ThreeAwake x = Check.told(TWO + "need 1 1;watch 1 1;storm 2 3;bed 1 1;");
        x.hear(0, 0, false);
        x.hear(1, 0, false);
        return x;
    }

    private static void dueAsChanged(ThreeAwake x) {
        Check.due("facing", x.sister(1, 1), 1);
        Check.due("tired", x.eye(0, 1), 3);
        Check.due("need", x.needed(1, 0), 1);
        Check.due("storm", x.needed(3, 2), 1);
        Check.due("storms", x.count(4), 1);
        Check.due("watch", x.watch(1), 1);
        Check.due("heard", x.count(0), 2);
        Check.due("what was heard of quarter 0", x.fits(0, 0), 1);
        Check.due("what was heard of quarter 1", x.fits(1, 0), 1);
    }

    private static void changeAll(ThreeAwake x) {
        x.turn(1, 2);
        x.tire(0, 9);
        x.need(1, 4);
        x.storm(2, 3, false);
        x.storm(0, 0, true);
        x.tell(1, 2);
        x.forget(0);
        x.hear(0, 1, true);
    }

    private static void promise34And35KeepAndBack() {
        ThreeAwake x = changed();
        Check.due("back(0) of none", x.back(0), STATE);
        Check.due("back(1) of none", x.back(1), STATE);
        Check.due("keep(0)", x.keep(0), 0);
        Check.due("back(1), still none", x.back(1), STATE);
        changeAll(x);
        Check.due("keep(1)", x.keep(1), 0);
        Check.due("back(0)", x.back(0), 2);
        dueAsChanged(x);
        Check.due("keep(1) again, of the same", x.keep(1), 1);
        x.back(0);
        x.keep(1);
        changeAll(x);
        x.keep(1);
        Check.due("back(1)", x.back(1), 2);
        Check.due("tired by the other image", x.eye(0, 1), 9);
        Check.due("back(0) again", x.back(0), 2);
        changeAll(x);
        Check.due("an image is no part of what changes", x.back(0), 2);
        dueAsChanged(x);
        changeAll(x);
        Check.due("keep(0) again", x.keep(0), 1);
        Check.due("back(0) of the later one", x.back(0), 2);
        Check.due("need of the later one", x.needed(1, 0), 4);
        Check.due("keep(2)", x.keep(2), BAD);
        Check.due("back(2)", x.back(2), BAD);
        for (int far : FAR) {
            Check.due("keep(" + far + ")", x.keep(far), BAD);
            Check.due("back(" + far + ")", x.back(far), BAD);
        }
        x.sheet(0, 0, 5);
        x.feed(0);
        x.back(1);
        Check.due("sheets stay by back", x.count(3), 5);
        Check.due("the tape stays by back", x.count(2), 8);
        ThreeAwake nobody = new ThreeAwake();
        nobody.keep(1);
        Check.due("back(1) of nobody", nobody.back(1), 0);
    }

    private static void promise36Sheet() {
        ThreeAwake x = new ThreeAwake();
        Check.due("sheet(0, 0, 40)", x.sheet(0, 0, 40), 1);
        Check.due("40 cells", x.count(3), 40);
        Check.due("sheet(0, 0, 41)", x.sheet(0, 0, 41), BAD);
        Check.due("sheet(0, 3, 1)", x.sheet(0, 3, 1), BAD);
        Check.due("sheet(4, 0, 1)", x.sheet(4, 0, 1), BAD);
        Check.due("sheet(4, 0, -1)", x.sheet(4, 0, -1), BAD);
        Check.due("sheet(0, 3, -1)", x.sheet(0, 3, -1), BAD);
        Check.due("sheet(0, 2, -1): SIZE", x.sheet(0, 2, -1), -14);
        Check.due("sheet(0, 2, min): SIZE", x.sheet(0, 2, Integer.MIN_VALUE), -14);
        Check.due("sheet(0, 2, max)", x.sheet(0, 2, Integer.MAX_VALUE), BAD);
        for (int far : FAR) {
            Check.due("sheet(" + far + ", 0, 1)", x.sheet(far, 0, 1), BAD);
            Check.due("sheet(0, " + far + ", 1)", x.sheet(0, far, 1), BAD);
        }
        Check.due("40 cells still", x.count(3), 40);
        x.lay(0, 0, 9);
        Check.due("of bytes still", x.read(0, 0, 0, 1), -20);
        Check.due("a new row", x.sheet(0, 2, 4), 1);
        x.tell(0, 0);
        Check.due("of zeros", x.read(0, 2, 0, 2), 2);
        Check.due("sheet(0, 0, 0)", x.sheet(0, 0, 0), 1);
        Check.due("of no cells, not nothing", x.count(3), 0);
        Check.due("lay in no cells: INDEX", x.lay(0, 0, 0), -12);
    }

    private static void promise37Lay() {
        ThreeAwake x = Check.told(TWO);
        Check.due("lay of nothing: NULL", x.lay(0, -1, 0), -11);
        x.sheet(0, 0, 2);
        x.sheet(1, 1, 2);
        x.sheet(2, 2, 2);
        Check.due("lay(0, 2, 0): INDEX", x.lay(0, 2, 0), -12);
        for (int far : FAR) {
            Check.due("lay(0, " + far + ", 0): INDEX", x.lay(0, far, 0), -12);
            Check.due("lay(" + far + ", 0, 0)", x.lay(far, 0, 0), BAD);
        }
        Check.due("lay(4, 0, 0)", x.lay(4, 0, 0), BAD);
        Check.due("lay(3, 0, 0): NULL", x.lay(3, 0, 0), -11);
        // The lowest bits with a sign: 256 is 0 as a byte, 65536 as a short; 255 is -1 as a byte.
        int[] cells = {256 + 1, 256 + 5, 65536 + 256, 65536 + 1, 65536 + 5, 255};
        int[][] comes = {{1, 5, 0, 1, 5, -1}, {257, 261, 256, 1, 5, 255}, {257, 261, 65792, 65537, 65541, 255}};
        for (int lane = 0; lane < 3; lane++) {
            for (int i = 0; i < cells.length; i++) {
                Check.due("lay of " + cells[i], x.lay(lane, 1, cells[i]), 1);
                x.tell(0, 0);
                boolean isWatch = comes[lane][i] >= 0 && comes[lane][i] < 9;
                Check.due("read of " + cells[i] + " in lane " + lane, x.read(lane, lane, 0, 1), isWatch ? 1 : -20);
                Check.due("watch", x.watch(0), isWatch ? comes[lane][i] : 0);
            }
        }
    }

    private static ThreeAwake withRow() {
        ThreeAwake x = Check.told(TWO + "quarters 6;");
        x.sheet(1, 1, 9);
        int[] row = {0, 1, 1, 2, 2, 3, 3, 4, 5};
        for (int i = 0; i < row.length; i++) {
            x.lay(1, i, row[i]);
        }
        return x;
    }

    private static void dueWatches(ThreeAwake x, int... watches) {
        for (int q = 0; q < watches.length; q++) {
            Check.due("watch(" + q + ")", x.watch(q), watches[q]);
            x.tell(q, 0);
        }
    }

    private static void promise38And39ReadAndTorn() {
        ThreeAwake x = withRow();
        Check.due("read(1, 1, 0, 4)", x.read(1, 1, 0, 4), 4);
        Check.due("torn()", x.torn(), 0);
        dueWatches(x, 1, 2, 3, 4, 0, 0);
        Check.due("read(1, 1, 0, 5): half of the last", x.read(1, 1, 0, 5), 4);
        Check.due("torn() by INDEX", x.torn(), 2);
        dueWatches(x, 1, 2, 3, 4, 0, 0);
        Check.due("read(1, 1, 1, 4)", x.read(1, 1, 1, 4), 4);
        Check.due("torn() of that", x.torn(), 0);
        dueWatches(x, 0, 1, 2, 3, 5, 0);
        Check.due("read(1, 1, 0, 13)", x.read(1, 1, 0, 13), 4);
        Check.due("torn() of 13", x.torn(), 2);
        Check.due("read(1, 0, 0, 2): CAST", x.read(1, 0, 0, 2), 0);
        Check.due("torn() by CAST", x.torn(), 3);
        Check.due("read(0, 0, 0, 2): NULL", x.read(0, 0, 0, 2), 0);
        Check.due("torn() by NULL", x.torn(), 1);
        Check.due("read(1, 2, 0, 0): none", x.read(1, 2, 0, 0), 0);
        Check.due("torn() of none", x.torn(), 0);
        Check.due("read(0, 0, -9, 0): none", x.read(0, 0, -9, 0), 0);
        int[] behind = {9, 8, -1, -2, Integer.MIN_VALUE, Integer.MAX_VALUE};
        for (int f : behind) {
            Check.due("read(1, 1, " + f + ", 1): INDEX", x.read(1, 1, f, 1), 0);
            Check.due("torn() at " + f, x.torn(), 2);
        }
        Check.due("read(1, 2, 99, 1): CAST before INDEX", x.read(1, 2, 99, 1), 0);
        Check.due("torn() by CAST", x.torn(), 3);
    }

    private static void promise38Refused() {
        ThreeAwake x = withRow();
        x.read(0, 0, 0, 1);
        x.lay(1, 5, 9);
        Check.due("the third is bad", x.read(1, 1, 0, 4), -22);
        Check.due("torn() stays", x.torn(), 1);
        dueWatches(x, 0, 0, 0, 0, 0, 0);
        Check.due("the third is bad, met before INDEX", x.read(1, 1, 0, 13), -22);
        Check.due("two ahead of it", x.read(1, 1, 0, 2), 2);
        Check.due("torn() of two", x.torn(), 0);
        x.lay(1, 4, 6);
        x.lay(1, 5, 0);
        Check.due("no such quarter", x.read(1, 1, 4, 1), -20);
        Check.due("no such quarter, the third", x.read(1, 1, 0, 4), -22);
        x.lay(1, 4, -1);
        Check.due("a quarter below 0", x.read(1, 1, 4, 1), -20);
        x.lay(1, 8, 99);
        Check.due("the last is half: not bad", x.read(1, 1, 6, 2), 1);
        Check.due("torn() of that", x.torn(), 2);
        Check.due("read(1, 1, 0, 14)", x.read(1, 1, 0, 14), BAD);
        Check.due("read(1, 3, 0, 1)", x.read(1, 3, 0, 1), BAD);
        Check.due("read(4, 0, 0, 1)", x.read(4, 0, 0, 1), BAD);
        for (int far : FAR) {
            Check.due("read(" + far + ", 0, 0, 0)", x.read(far, 0, 0, 0), BAD);
            Check.due("read(0, " + far + ", 0, 0)", x.read(0, far, 0, 0), BAD);
            Check.due("read(0, 0, 0, " + far + ")", x.read(0, 0, 0, far), BAD);
        }
        Check.due("torn() stays by BAD", x.torn(), 2);
        x.sheet(0, 2, 40);
        Check.due("13 of 40 cells", x.read(0, 2, 14, 13), 13);
        Check.due("12 of the last 25", x.read(0, 2, 15, 13), 12);
        Check.due("13 the same cells told", x.torn(), 2);
        Check.taken(x, "", 0);
        Check.due("torn() stays by a text", x.torn(), 2);
    }

    private static void promise40Count() {
        ThreeAwake x = changed();
        Check.due("count(0)", x.count(0), 2);
        Check.due("count(1)", x.count(1), 0);
        x.keep(1);
        Check.due("count(1), one kept", x.count(1), 1);
        x.keep(1);
        Check.due("count(1), kept again", x.count(1), 1);
        x.keep(0);
        Check.due("count(1), both kept", x.count(1), 2);
        x.feed(0);
        x.end(5);
        Check.due("count(2)", x.count(2), 5);
        Check.due("count(3) of nothing", x.count(3), NONE);
        x.sheet(1, 0, 7);
        Check.due("count(3) is of sheet 0", x.count(3), NONE);
        x.sheet(0, 1, 7);
        Check.due("count(3)", x.count(3), 7);
        Check.due("count(4)", x.count(4), 1);
        x.storm(2, 3, true);
        x.storm(3, 3, true);
        x.storm(3, 0, true);
        Check.due("count(4), more", x.count(4), 3);
        x.storm(0, 1, true);
        Check.due("count(4), of quarter 0, too", x.count(4), 4);
        Check.due("count(5)", x.count(5), 9);
        Check.due("count(6)", x.count(6), BAD);
        for (int far : FAR) {
            Check.due("count(" + far + ")", x.count(far), BAD);
        }
        Check.due("count(5) of one", Check.told("sister glass 1 1 1 1;").count(5), 3);
        Check.due("count(5) of three", Check.told(TWO + "sister glass 1 1 1 1;").count(5), 27);
    }

    /** What an image does not hold: the tape, sheets, what was torn, the fault, the other image. */
    private static void promise35WhatStays() {
        ThreeAwake x = changed();
        x.keep(0);
        changeAll(x);
        x.keep(1);
        x.sheet(0, 0, 2);
        x.lay(0, 1, 8);
        x.sheet(1, 0, 40);
        x.read(2, 0, 0, 1);
        Check.refused(x, "storm", 2, 5);
        x.feed(0);
        x.end(7);
        Check.due("back(0)", x.back(0), 2);
        dueAsChanged(x);
        Check.due("torn() stays by back", x.torn(), 1);
        Check.due("fault() stays by back", x.fault(), 2);
        Check.due("the tape stays by back", x.count(2), 7);
        Check.due("the sheet stays by back", x.count(3), 2);
        Check.due("both images stay by back", x.count(1), 2);
        Check.due("what is on the sheet stays", x.read(0, 0, 0, 1), 1);
        Check.due("and is told", x.watch(0), 8);
        Check.due("the other image stays", x.back(1), 2);
        Check.due("facing of the other image", x.sister(1, 1), 2);
        Check.due("storm of the other image", x.needed(0, 0), 1);
        Check.due("heard of the other image", x.count(0), 1);
        Check.due("how many sisters of 3", three().back(0), 3);
    }

    /** Of nothing heard, of eight: all of them are in an image, and none is left of another. */
    private static void promise34Heard() {
        for (int n = 0; n <= 8; n++) {
            ThreeAwake x = Check.told(TWO);
            for (int i = 0; i < n; i++) {
                x.hear(0, 0, i < n - 1);
            }
            int fit = x.fits(0, 0);
            x.keep(0);
            x.forget(0);
            for (int i = 0; i < 8; i++) {
                x.hear(1, 1, false);
            }
            x.keep(1);
            Check.due("back(0) of " + n + " heard", x.back(0), 2);
            Check.due("so many are heard", x.count(0), n);
            Check.due("what was heard", x.fits(0, 0), n == 0 ? 9 : n == 1 ? 3 : 0);
            Check.due("it is as it was", x.fits(0, 0), fit);
            Check.due("nothing of the other quarter", x.fits(1, 0), 9);
            Check.due("one more", x.hear(1, 1, true), n == 8 ? ThreeAwake.FULL : n + 1);
            Check.due("back(1) of 8 heard", x.back(1), 2);
            Check.due("eight are heard", x.count(0), 8);
            Check.due("what was heard of quarter 1", x.fits(1, 0), 3);
            Check.due("what was heard of quarter 0", x.fits(0, 0), 9);
        }
    }

    private static ThreeAwake three() {
        ThreeAwake x = Check.told(TWO + "sister glass 1 1 1 1;");
        x.keep(0);
        return x;
    }

    /** Of 0, 1, 39, 40 cells, in each lane of each sheet: the last cell, the first behind it. */
    private static void promise36And37Sizes() {
        int[] sizes = {0, 1, 39, 40};
        for (int k = 0; k < 4; k++) {
            ThreeAwake x = new ThreeAwake();
            for (int lane = 0; lane < 3; lane++) {
                for (int n : sizes) {
                    Check.due("sheet", x.sheet(k, lane, n), 1);
                    Check.due("the last of " + n, x.lay(k, n - 1, 0), n == 0 ? -12 : 1);
                    Check.due("behind the last of " + n, x.lay(k, n, 0), -12);
                    Check.due("the first of " + n, x.lay(k, 0, 0), n == 0 ? -12 : 1);
                    Check.due("below the first of " + n, x.lay(k, -1, 0), -12);
                    Check.due("count(3)", x.count(3), k == 0 ? n : NONE);
                    Check.due("sheet of 41", x.sheet(k, lane, 41), BAD);
                    Check.due("sheet of -1", x.sheet(k, lane, -1), -14);
                    Check.due("the row stays", x.lay(k, n, 0), -12);
                    Check.due("the row stays", x.lay(k, n - 1, 0), n == 0 ? -12 : 1);
                }
            }
            for (int other = 0; other < 4; other++) {
                Check.due("the other sheets are nothing", x.lay(other, 0, 0), other == k ? 1 : -11);
            }
        }
        ThreeAwake x = new ThreeAwake();
        Check.due("BAD ahead of SIZE: k", x.sheet(4, 0, -1), BAD);
        Check.due("BAD ahead of SIZE: lane", x.sheet(0, -1, -1), BAD);
        Check.due("BAD ahead of SIZE: lane", x.sheet(0, 3, -1), BAD);
        Check.due("nothing is made", x.count(3), NONE);
        Check.due("BAD ahead of NULL", x.lay(4, 0, 0), BAD);
    }

    /** What is laid comes by its lowest bits, with a sign: 8, 16, 32 of them. */
    private static void promise37Bits() {
        int[] bits = {8, 16, 32};
        int[] laid = {5, 255, 256, 261, -251, 127, 128, -128, -129, 65535, 65536, 65541, -65531, 32767, 32768,
            Integer.MIN_VALUE, Integer.MIN_VALUE + 5, Integer.MAX_VALUE, Integer.MAX_VALUE - 250, 0x10000 + 256 + 3};
        for (int lane = 0; lane < 3; lane++) {
            ThreeAwake x = Check.told(TWO);
            x.sheet(3, lane, 2);
            for (int v : laid) {
                int shift = 32 - bits[lane];
                int comes = v << shift >> shift;
                x.tell(0, 8);
                Check.due("lay of " + v, x.lay(3, 1, v), 1);
                boolean whole = comes >= 0 && comes <= 8;
                Check.due("read of " + v + " in lane " + lane, x.read(3, lane, 0, 1), whole ? 1 : -20);
                Check.due("watch by " + v + " in lane " + lane, x.watch(0), whole ? comes : 8);
            }
        }
    }

    private static void dueRead(ThreeAwake x, int lane, int f, int n, int come, int torn) {
        Check.due("read(0, " + lane + ", " + f + ", " + n + ")", x.read(0, lane, f, n), come);
        Check.due("torn() of it", x.torn(), torn);
    }

    /** From each place on, of each number: which come, and what the machine finds. */
    private static void promise38Ends() {
        ThreeAwake x = Check.told(TWO);
        x.sheet(0, 1, 40);
        for (int f = 38; f <= 42; f++) {
            dueRead(x, 1, f, 0, 0, 0);
            dueRead(x, 1, f, 1, f == 38 ? 1 : 0, f == 38 ? 0 : 2);
            dueRead(x, 1, f, 13, f == 38 ? 1 : 0, 2);
            dueRead(x, 2, f, 1, 0, 3);
        }
        for (int f = 13; f <= 16; f++) {
            dueRead(x, 1, f, 13, f <= 14 ? 13 : 12, f <= 14 ? 0 : 2);
        }
        int[] far = {-1, -2, -26, Integer.MIN_VALUE, Integer.MIN_VALUE + 1, Integer.MAX_VALUE, Integer.MAX_VALUE - 1, Integer.MAX_VALUE - 25};
        for (int f : far) {
            dueRead(x, 1, f, 13, 0, 2);
            dueRead(x, 1, f, 0, 0, 0);
            dueRead(x, 0, f, 13, 0, 3);
            dueRead(x, 0, f, 0, 0, 0);
            Check.due("nothing: NULL ahead of all", x.read(2, 0, f, 13), 0);
            Check.due("torn() by NULL", x.torn(), 1);
            Check.due("nothing, of n 0", x.read(2, 0, f, 0), 0);
            Check.due("torn() of n 0", x.torn(), 0);
        }
        x.sheet(0, 0, 0);
        dueRead(x, 0, 0, 1, 0, 2);
        dueRead(x, 1, 0, 1, 0, 3);
        dueRead(x, 0, 0, 0, 0, 0);
        x.sheet(0, 0, 1);
        dueRead(x, 0, 0, 1, 0, 2);
        x.sheet(0, 0, 3);
        dueRead(x, 0, 0, 1, 1, 0);
        dueRead(x, 0, 0, 2, 1, 2);
        dueRead(x, 0, 1, 1, 1, 0);
        dueRead(x, 0, 2, 1, 0, 2);
    }

    /** The i-th is BAD: the first, the last; what is half is not BAD, and what is BAD is first. */
    private static void promise38FirstMet() {
        for (int bad = 0; bad < 13; bad++) {
            ThreeAwake x = Check.told(TWO + "quarters 2;");
            x.sheet(0, 2, 26);
            for (int i = 0; i < 13; i++) {
                x.lay(0, 2 * i + 1, 4);
            }
            x.read(1, 0, 0, 1);
            x.lay(0, 2 * bad + bad % 2, bad % 2 == 0 ? 2 : 9);
            Check.due("read: BAD is " + bad, x.read(0, 2, 0, 13), -20 - bad);
            Check.due("then none came", x.watch(0), 0);
            Check.due("torn() stays", x.torn(), 1);
            Check.due("read of those ahead of it", x.read(0, 2, 0, bad), bad);
            Check.due("torn() of them", x.torn(), 0);
            Check.due("they came", x.watch(0), bad == 0 ? 0 : 4);
            Check.due("read of those behind it", x.read(0, 2, 2 * bad + 2, 12 - bad), 12 - bad);
            Check.due("read, one more than there are", x.read(0, 2, 2 * bad + 2, 13 - bad), 12 - bad);
            Check.due("torn() by INDEX", x.torn(), 2);
            x.sheet(0, 2, 1);
            x.lay(0, 0, 99);
            Check.due("half of one is not BAD", x.read(0, 2, 0, 1), 0);
            Check.due("torn() by INDEX", x.torn(), 2);
        }
        ThreeAwake x = Check.told(TWO);
        x.sheet(0, 0, 4);
        x.lay(0, 1, 3);
        x.lay(0, 3, 7);
        dueRead(x, 0, 0, 2, 2, 0);
        Check.due("the later one of a quarter stays", x.watch(0), 7);
        x.lay(0, 0, -1);
        Check.due("a quarter of -1", x.read(0, 0, 0, 2), -20);
        x.lay(0, 0, 4);
        Check.due("a quarter of 4", x.read(0, 0, 0, 2), -20);
        x.lay(0, 0, 3);
        x.lay(0, 1, -1);
        Check.due("a watch of -1", x.read(0, 0, 0, 2), -20);
        x.lay(0, 1, 9);
        Check.due("a watch of 9", x.read(0, 0, 0, 2), -20);
        x.lay(0, 1, 8);
        dueRead(x, 0, 0, 2, 2, 0);
        Check.due("the last watch of the last quarter", x.watch(3), 8);
    }

    public static void main(String[] args) {
        promise34Heard();
        promise35WhatStays();
        promise36And37Sizes();
        promise37Bits();
        promise38Ends();
        promise38FirstMet();
        promise34And35KeepAndBack();
        promise36Sheet();
        promise37Lay();
        promise38And39ReadAndTorn();
        promise38Refused();
        promise40Count();
        Check.finish();
    }
}

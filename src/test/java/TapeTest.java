/** Promises 1 to 5: a new object, feed, end, text, fault. */
public final class TapeTest {
    private static final String PLAIN = "sister plain 1 2 3 4;";

    private static void promise1NewObject() {
        ThreeAwake x = new ThreeAwake();
        Check.due("rule(0) of a new one", x.rule(0), 0);
        Check.due("rule(1) of a new one", x.rule(1), 4);
        Check.due("fault() of a new one", x.fault(), 0);
        Check.due("torn() of a new one", x.torn(), 0);
        for (int what = 0; what <= 5; what++) {
            Check.due("count(" + what + ") of a new one", x.count(what), what == 3 ? ThreeAwake.NONE : what == 5 ? 1 : 0);
        }
        for (int k = 0; k < 4; k++) {
            Check.due("lay of sheet " + k, x.lay(k, 0, 0), -11);
        }
        for (int q = 0; q < 4; q++) {
            Check.due("watch(" + q + ") of a new one", x.watch(q), 0);
            for (int side = 0; side < 4; side++) {
                Check.due("needed of a new one", x.needed(side, q), 0);
            }
        }
        Check.due("back(0) of a new one", x.back(0), ThreeAwake.STATE);
    }

    private static void promise2Feed() {
        ThreeAwake x = new ThreeAwake();
        for (int n = 8; n <= 320; n += 8) {
            Check.due("feed to " + n, x.feed(-1L), n);
        }
        Check.due("feed of a full tape", x.feed(0), ThreeAwake.FULL);
        Check.due("count(2) behind FULL", x.count(2), 320);
        x.end(313);
        Check.due("feed at 313", x.feed(0), ThreeAwake.FULL);
        x.end(312);
        Check.due("feed at 312", x.feed(0), 320);
        x.end(0);
        // "need 0 5" and then ";": the highest byte is the first.
        x.feed(0x6e65656420302035L);
        x.feed(0x3b20202020202020L);
        Check.due("text of need 0 5", x.text(), 1);
        Check.due("need told", x.needed(0, 0), 5);
    }

    private static void promise3End() {
        ThreeAwake x = new ThreeAwake();
        Check.due("end(0) of none", x.end(0), 0);
        Check.due("end(1) of none", x.end(1), ThreeAwake.BAD);
        x.feed(0);
        x.feed(0);
        Check.due("end(-1)", x.end(-1), ThreeAwake.BAD);
        Check.due("end(17)", x.end(17), ThreeAwake.BAD);
        Check.due("end(max)", x.end(Integer.MAX_VALUE), ThreeAwake.BAD);
        Check.due("count(2) behind BAD", x.count(2), 16);
        Check.due("end(16)", x.end(16), 16);
        Check.due("end(3)", x.end(3), 16);
        Check.due("end(0)", x.end(0), 3);
        Check.due("count(2)", x.count(2), 0);
        promise3FeedBehindTheEnd();
    }

    /** The first n bytes are kept, the next come behind them; what was cut is gone. */
    private static void promise3FeedBehindTheEnd() {
        String cut = "need 0 5;storm 0 0;";
        for (int n = 0; n <= 9; n++) {
            ThreeAwake x = new ThreeAwake();
            Check.put(x, cut);
            Check.due("end(" + n + ")", x.end(n), cut.length());
            Check.due("feed behind " + n, x.feed(0x2020202020202020L), n + 8);
            Check.due("end of that", x.end(n), n + 8);
            Check.put(x, cut.substring(n, 9) + "need 1 2;");
            Check.due("text() of both", x.text(), 2);
            Check.due("the first bytes are kept", x.needed(0, 0), 5);
            Check.due("the next come behind them", x.needed(1, 0), 2);
            Check.due("what was cut is gone", x.count(4), 0);
        }
        ThreeAwake signs = new ThreeAwake();
        // The lowest byte of the first eight, the highest of the next: one name of both.
        signs.feed(0x2020202020206e65L);
        signs.feed(0x6564203020343b20L);
        Check.due("text() of a name over two feeds", signs.text(), 1);
        Check.due("its need", signs.needed(0, 0), 4);
        signs.feed(0x8000000000000000L);
        Check.due("a byte of 128", signs.text(), -10);
        Check.due("is no token", signs.fault(), 1);
        signs.feed(0x20202020202020ffL);
        Check.due("a byte of 255, the last", signs.text(), -17);
        Check.due("is no token", signs.fault(), 1);
    }

    private static void promise4Text() {
        ThreeAwake x = new ThreeAwake();
        Check.taken(x, "", 0);
        Check.taken(x, "   ", 0);
        Check.taken(x, PLAIN, 1);
        Check.taken(x, "  sister   plain1 2  3 4  ;need00 06;storm 3 3;need1 1 ;  bed0 3;quarters4; ", 6);
        Check.due("needed(0, 0)", x.needed(0, 0), 6);
        Check.due("needed(3, 3)", x.needed(3, 3), 1);
        Check.due("facing", x.sister(0, 1), 3);
        Check.taken(x, "watch 5 8;sister plain 1 2 3 4;quarters 6;sister glass 15 15 9 9;storm 5 0;bed 1 2;", 6);
        Check.due("watch(5)", x.watch(5), 8);
        Check.due("glass is not tired", x.eye(2, 1), 0);
        Check.due("her other eye is", x.eye(3, 1), 9);
        Check.due("need is as at first", x.needed(0, 0), 0);
        Check.due("facing is as at first", x.sister(0, 1), 0);
        Check.taken(x, PLAIN + PLAIN + PLAIN + "watch 0 26;watch 1 00;", 5);
        Check.due("watch(0), the highest", x.watch(0), 26);
        for (int s = 0; s < 3; s++) {
            Check.due("kind of sister " + s, x.sister(s, 0), 0);
        }
        Check.taken(x, "", 0);
        Check.due("nobody by an empty text", x.rule(0), 0);
        Check.due("4 quarters by an empty text", x.rule(1), 4);
        Check.due("no storms by an empty text", x.count(4), 0);
        promise4KeepsAndForgets();
    }

    private static void promise4KeepsAndForgets() {
        ThreeAwake x = Check.told(PLAIN + "need 1 1;");
        x.hear(0, 0, true);
        x.keep(0);
        x.keep(1);
        x.sheet(0, 0, 3);
        Check.refused(x, "quarters 2; need 1", 2, 18);
        Check.due("sisters stay by a fault", x.rule(0), 1);
        Check.due("quarters stay by a fault", x.rule(1), 4);
        Check.due("need stays by a fault", x.needed(1, 0), 1);
        Check.due("heard stays by a fault", x.count(0), 1);
        Check.due("images stay by a fault", x.count(1), 2);
        Check.taken(x, PLAIN, 1);
        Check.due("nothing is heard by a text", x.count(0), 0);
        Check.due("images are gone by a text", x.count(1), 0);
        Check.due("back by a text", x.back(0), ThreeAwake.STATE);
        Check.due("sheets stay by a text", x.count(3), 3);
    }

    /** What stood behind the end of the tape before is no part of it. */
    private static void promise5FaultAtTheEnd() {
        String[] rows = {"need", "need 0 1", "need 0"};
        for (String row : rows) {
            ThreeAwake x = new ThreeAwake();
            Check.put(x, row + "need");
            x.end(row.length());
            Check.refused(x, "", 2, row.length());
            Check.put(x, row + "77;");
            x.end(row.length());
            Check.refused(x, "", 2, row.length());
        }
        ThreeAwake x = new ThreeAwake();
        String full = " ".repeat(316);
        Check.refused(x, full + "need", 2, 320);
        Check.refused(x, full + " 123", 1, 317);
        Check.refused(x, full + "   ;", 2, 319);
        Check.taken(x, full + "    ", 0);
        Check.taken(x, full.substring(5) + "need 0 1;", 1);
        Check.refused(x, full.substring(4) + "need 0 1", 2, 320);
        Check.refused(x, ";".repeat(320), 2, 0);
    }

    private static void promise5Fault() {
        ThreeAwake x = new ThreeAwake();
        String[][] rows = {
            {"Need 0 1;", "1", "0"}, {"need 0 1;,", "1", "9"}, {"need 0,1;", "1", "6"}, {"need 000 1;", "1", "5"},
            {"123;", "1", "0"}, {"need 0 1\n;", "1", "8"}, {"need 0 1;\u00e9", "1", "9"}, {"need 0 001", "1", "7"},
            {"sister plain 001 0 0 0;", "1", "13"}, {"sister plain 1-", "1", "14"},
            {"z 1;", "2", "0"}, {"`", "1", "0"}, {"{", "1", "0"}, {"/", "1", "0"}, {":", "1", "0"},
            {"need 9 1;", "3", "5"}, {"a;", "2", "0"},
            {";", "2", "0"}, {"needs 0 1;", "2", "0"}, {"nee", "2", "0"}, {"7", "2", "0"}, {"need", "2", "4"},
            {"need ", "2", "5"}, {"need ;", "2", "5"}, {"need north 1;", "2", "5"}, {"need 0 1", "2", "8"},
            {"need 0 1 1;", "2", "9"}, {"need 0 1 need", "2", "9"}, {"plain 1 1 1 1;", "2", "0"},
            {"sister sister 1 1 1 1;", "2", "7"}, {"sister 1 1 1 1;", "2", "7"}, {"sister plainx 1 1 1 1;", "2", "7"},
            {"sister plain 1 1 1 1 1;", "2", "21"}, {"quarters 4 ; ;", "2", "13"}, {"sister;", "2", "6"},
            {"need 4 9;", "3", "5"}, {"need 0 7;", "3", "7"}, {"need 10 7;", "3", "5"}, {"quarters 0;", "3", "9"},
            {"quarters 7;", "3", "9"}, {"storm 6 4;", "3", "6"}, {"storm 5 4;", "3", "8"}, {"watch 6 0;", "3", "6"},
            {"watch 0 27;", "3", "8"}, {"bed 3 0;", "3", "4"}, {"bed 0 4;", "3", "6"},
            {"sister plain 16 0 0 0;", "3", "13"}, {"sister plain 0 16 0 0;", "3", "15"},
            {"sister plain 0 0 10 0;", "3", "17"}, {"sister plain 0 0 0 10;", "3", "19"},
            {"quarters 4;quarters 4;", "4", "11"}, {"quarters 4;quarters", "4", "11"}, {"need 2 0;need 2 0;", "4", "14"},
            {"need 2 0;need 2", "4", "14"}, {"need 2 0;need 1 0;need 2 0;", "4", "23"},
            {"need 2 0;need 1 0;need 1 0;", "4", "23"}, {"storm 1 2;storm 1 3;storm 1 2;", "4", "28"},
            {"watch 1 0;watch 2 0;watch 1 0;", "4", "26"}, {"bed 2 0;bed 1 0;bed 2 0;", "4", "20"}, {"storm 0 0;storm 1 0;storm 0 0;", "4", "28"},
            {"watch 1 0;watch 1 0;", "4", "16"}, {"bed 2 0;bed 2 0;", "4", "12"},
            {PLAIN + PLAIN + PLAIN + "sister;", "5", "63"}, {PLAIN + PLAIN + PLAIN + PLAIN, "5", "63"},
            {"bed 0 0;", "6", "8"}, {PLAIN + "bed 1 0; ", "6", "30"}, {"watch 4 0;", "6", "10"}, {"storm 4 0;", "6", "10"},
            {"quarters 3;storm 3 0;", "6", "21"}, {"watch 2 0;quarters 2;", "6", "21"}, {"watch 0 1;bed 0 0;", "6", "18"},
            {"watch 0 1;", "7", "10"}, {PLAIN + "watch 0 3;", "7", "31"}, {PLAIN + PLAIN + "watch 3 9;", "7", "52"},
        };
        for (String[] row : rows) {
            ThreeAwake y = new ThreeAwake();
            Check.refused(y, row[0], Integer.parseInt(row[1]), Integer.parseInt(row[2]));
            Check.due("nobody behind [" + row[0] + "]", y.rule(0), 0);
        }
        Check.taken(x, PLAIN + "watch 0 2;", 2);
        Check.refused(x, "x", 2, 0);
        Check.due("fault() asked again", x.fault(), 2);
        Check.taken(x, "", 0);
    }

    public static void main(String[] args) {
        promise1NewObject();
        promise2Feed();
        promise3End();
        promise4Text();
        promise5Fault();
        promise5FaultAtTheEnd();
        Check.finish();
    }
}

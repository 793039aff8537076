/** The text, sentence by sentence: signs, tokens, bounds, faults at their places. */
public final class TokensTest {
    private static final String PLAIN = "sister plain 1 2 3 4;";
    private static final String THREE = PLAIN + PLAIN + PLAIN;

    /** A whole line of each sort; those of sisters, quarters that there are by THERE. */
    private static final String[] LINES = {
        "sister plain 1 2 3 4 ;", "quarters 4 ;", "need 1 2 ;", "storm 3 2 ;", "watch 3 8 ;", "bed 1 2 ;"
    };
    private static final String THERE = PLAIN + PLAIN;

    private static void refused(String text, int fault, int place) {
        Check.refused(new ThreeAwake(), text, fault, place);
    }

    private static void taken(String text, int lines) {
        Check.taken(new ThreeAwake(), text, lines);
    }

    private static boolean isLetter(int sign) {
        return sign >= 'a' && sign <= 'z';
    }

    private static boolean isFigure(int sign) {
        return sign >= '0' && sign <= '9';
    }

    /** Every byte where a line may begin: a blank, what can not stand there, or no token. */
    private static void everyByteFirst() {
        for (int sign = 0; sign < 256; sign++) {
            String text = String.valueOf((char) sign);
            if (sign == ' ') {
                taken(text, 0);
            } else {
                boolean token = isLetter(sign) || isFigure(sign) || sign == ';';
                refused(text, token ? 2 : 1, 0);
                refused(PLAIN + text, token ? 2 : 1, PLAIN.length());
            }
        }
    }

    /** Every byte behind a name, where a blank may be missing. */
    private static void everyByteBehindAName() {
        for (int sign = 0; sign < 256; sign++) {
            String text = "need" + (char) sign + "0 1;";
            if (sign == ' ' || sign == '0') {
                taken(text, 1);
            } else if (isFigure(sign)) {
                refused(text, 3, 4);
            } else if (isLetter(sign)) {
                refused(text, 2, 0);
            } else {
                refused(text, sign == ';' ? 2 : 1, 4);
            }
        }
    }

    /** Every byte behind a number, where the sign is due. */
    private static void everyByteBehindANumber() {
        for (int sign = 0; sign < 256; sign++) {
            String text = "need 0 1" + (char) sign;
            if (sign == ';') {
                taken(text, 1);
            } else if (isFigure(sign)) {
                refused(text, 3, 7);
            } else {
                refused(text, sign == ' ' || isLetter(sign) ? 2 : 1, sign == ' ' ? 9 : 8);
            }
        }
    }

    private static void blanks() {
        taken("", 0);
        taken(" ", 0);
        taken(" ".repeat(320), 0);
        taken("need0 1;", 1);
        taken("need 0 1;need 1 1;", 2);
        taken("  need   0   1  ;   need   1   1   ;  ", 2);
        taken("sister plain15 15 9 9;bed0 3;quarters6;storm5 3;watch5 2;", 5);
        // Without a blank two names are one, two numbers are one.
        refused("sisterplain 1 1 1 1;", 2, 0);
        refused("need 01;", 2, 7);
        refused("need 11;", 3, 5);
        refused("storm 00;", 2, 8);
        refused("need 0 1;need1 1;needs 2 1;", 2, 17);
        // A token is as long as may be.
        refused("need 0 1;ne ed 1 1;", 2, 9);
        refused("need 0 1;n", 2, 9);
        refused("watch 0 2 6;", 2, 10);
    }

    private static void numbers() {
        taken("need 00 06;", 1);
        taken("need 3 6;", 1);
        taken(THREE + "watch 03 09;watch 2 26;", 5);
        refused("need 000 1;", 1, 5);
        refused("need 0 001;", 1, 7);
        refused("need 0 100;", 1, 7);
        refused("need 0 99;", 3, 7);
        // 256 + 1, and 2 to the 32 and 1 more: no number comes round again.
        refused("need 0 257;", 1, 7);
        refused("need 0 4294967297;", 1, 7);
        refused("quarters 1.0;", 1, 10);
        refused("quarters -1;", 1, 9);
        refused("quarters +1;", 1, 9);
    }

    /** Of each number of each line all that are taken, and the first that is refused. */
    private static void bounds() {
        String fit = THREE + "quarters 6;";
        everyNumber("", "sister plain ", " 0 0 0;", 0, 15);
        everyNumber("", "sister plain 0 ", " 0 0;", 0, 15);
        everyNumber("", "sister plain 0 0 ", " 0;", 0, 9);
        everyNumber("", "sister plain 0 0 0 ", ";", 0, 9);
        everyNumber("", "sister glass 0 0 ", " 0;", 0, 9);
        everyNumber("", "quarters ", ";", 1, 6);
        everyNumber("", "need ", " 0;", 0, 3);
        everyNumber("", "need 0 ", ";", 0, 6);
        everyNumber(fit, "storm ", " 0;", 0, 5);
        everyNumber(fit, "storm 0 ", ";", 0, 3);
        everyNumber(fit, "watch ", " 0;", 0, 5);
        everyNumber(fit, "watch 0 ", ";", 0, 26);
        everyNumber(fit, "bed ", " 0;", 0, 2);
        everyNumber(fit, "bed 0 ", ";", 0, 3);
    }

    private static void everyNumber(String ahead, String from, String behind, int low, int high) {
        int lines = 1;
        for (char sign : ahead.toCharArray()) {
            lines += sign == ';' ? 1 : 0;
        }
        for (int v = 0; v <= 99; v++) {
            String text = ahead + from + v + behind;
            if (v >= low && v <= high) {
                taken(text, lines);
            } else {
                refused(text, 3, ahead.length() + from.length());
            }
        }
        refused(ahead + from + "000" + behind, 1, ahead.length() + from.length());
        refused(ahead + from + "100" + behind, 1, ahead.length() + from.length());
    }

    /** Behind each token the end, and each sort of token in the place of each other one. */
    private static void everyTokenOfALine() {
        for (String line : LINES) {
            String[] tokens = line.split(" ");
            String ahead = THERE;
            for (int i = 0; i < tokens.length; i++) {
                String cut = ahead + " ";
                if (i > 0) {
                    refused(ahead, 2, ahead.length());
                    refused(cut, 2, cut.length());
                    refused(cut + "sister;", 2, cut.length());
                    refused(cut + "?", 1, cut.length());
                }
                if (i == 0 || !tokens[i].equals(";")) {
                    refused(cut + ";", 2, cut.length());
                }
                if (!isFigure(tokens[i].charAt(0))) {
                    refused(cut + "3", 2, cut.length());
                    refused(cut + "333", 1, cut.length());
                    refused(cut + "plainer", 2, cut.length());
                } else {
                    refused(cut + "plain", 2, cut.length());
                }
                ahead = cut + tokens[i];
            }
            taken(ahead, 3);
            refused(ahead + ";", 2, ahead.length());
        }
    }

    private static void names() {
        String[] beginnings = {"sister", "quarters", "need", "storm", "watch", "bed"};
        for (String name : beginnings) {
            refused(name, 2, name.length());
            refused(name.substring(0, name.length() - 1), 2, 0);
            refused(name + "x 1 1;", 2, 0);
            refused(name.replace('e', 'i').replace('a', 'e').replace('o', 'u') + " 1 1;", 2, 0);
            refused(" " + name + name + " 1 1;", 2, 1);
            otherLetters("", name, " 1 1;");
        }
        String[] kinds = {"plain", "glass", "visitor", "dreamer"};
        for (int kind = 0; kind < kinds.length; kind++) {
            ThreeAwake x = Check.told("sister " + kinds[kind] + " 5 6 7 8;");
            Check.due("kind of " + kinds[kind], x.sister(0, 0), kind);
            refused("sister " + kinds[kind] + "s 5 6 7 8;", 2, 7);
            refused("sister " + kinds[kind].substring(1) + " 5 6 7 8;", 2, 7);
            refused("sister " + kinds[kind].substring(0, kinds[kind].length() - 1) + " 5 6 7 8;", 2, 7);
            refused(kinds[kind] + " 5 6 7 8;", 2, 0);
            refused("sister 5 6 7 8;", 2, 7);
            otherLetters("sister ", kinds[kind], " 5 6 7 8;");
        }
    }

    /** Each letter of a name in turn is the one behind it, the one ahead of it, a great one. */
    private static void otherLetters(String ahead, String name, String behind) {
        for (int i = 0; i < name.length(); i++) {
            int[] others = {name.charAt(i) + 1, name.charAt(i) - 1, name.charAt(i) - 32};
            for (int other : others) {
                String text = ahead + name.substring(0, i) + (char) other + name.substring(i + 1) + behind;
                // What is no letter ends the name ahead of it, which is none then.
                boolean first = i == 0 && !isLetter(other);
                refused(text, first ? 1 : 2, ahead.length());
            }
        }
    }

    /** A token is read when the one before has been taken: the earlier place has the fault. */
    private static void firstMet() {
        refused("need 4 ?", 3, 5);
        refused("need 0 7?", 3, 7);
        refused("need 0 ? 9", 1, 7);
        refused("needs ?", 2, 0);
        refused("sister plane ?", 2, 7);
        refused("quarters 0?", 3, 9);
        refused("storm 6 4;", 3, 6);
        refused("watch 6 27;", 3, 6);
        refused("bed 3 4;", 3, 4);
        refused("sister plain 16 16 10 10;", 3, 13);
        refused("sister plain 15 16 10 10;", 3, 16);
        refused("sister plain 15 15 10 10;", 3, 19);
        refused("sister plain 15 15 9 10;", 3, 21);
        refused("quarters 4;quarters ?", 4, 11);
        refused("quarters 4;quarters 7;", 4, 11);
        refused("need 0 1;need 0 7;", 4, 14);
        refused("need 0 1;need 0?", 4, 14);
        refused("watch 0 0;watch 0 27;", 4, 16);
        refused("watch 0 0;watch 0?", 4, 16);
        refused(PLAIN + "bed 0 1;bed 0 4;", 4, 33);
        refused(PLAIN + "bed 0 1;bed 0?", 4, 33);
        refused("storm 1 1;storm 1 1?", 4, 18);
        refused("storm 1 1;storm 1 4;", 3, 18);
        refused("storm 1 1;storm 1 ?", 1, 18);
        refused(THREE + "sister?", 5, 63);
        refused(THREE + "sister", 5, 63);
        refused(THREE + "  sister plane", 5, 65);
        // What stands behind all is looked for behind all.
        refused("bed 2 0;watch 0 26;?", 1, 19);
        refused("watch 5 26;z", 2, 11);
        refused("storm 5 0;storm 5 0;", 4, 18);
        refused("watch 5 1;quarters 5;watch 5 1;", 4, 27);
    }

    /** What is told once: each of its sort, the next of it is no second one. */
    private static void toldAlready() {
        for (int side = 0; side < 4; side++) {
            taken("need " + side + " 1;need " + (side + 1) % 4 + " 1;", 2);
            refused("need " + side + " 0;need " + side + " 0;", 4, 14);
            refused("need " + side + " 0;need " + (side + 1) % 4 + " 0;need " + side + " 1;", 4, 23);
        }
        for (int q = 0; q < 6; q++) {
            taken("quarters 6;watch " + q + " 0;watch " + (q + 1) % 6 + " 0;", 3);
            refused("watch " + q + " 0;watch " + q + " 0;", 4, 16);
            refused("watch " + q + " 0;watch " + (q + 1) % 6 + " 0;watch " + q + " 1;", 4, 26);
        }
        for (int s = 0; s < 3; s++) {
            taken(THREE + "bed " + s + " 0;bed " + (s + 1) % 3 + " 0;", 5);
            refused(THREE + "bed " + s + " 0;bed " + s + " 0;", 4, 63 + 12);
            refused(THREE + "bed " + s + " 0;bed " + (s + 1) % 3 + " 1;bed " + s + " 1;", 4, 63 + 20);
        }
        for (int storm = 0; storm < 24; storm++) {
            String is = "storm " + storm / 4 + " " + storm % 4 + ";";
            String other = "storm " + (storm + 1) % 24 / 4 + " " + (storm + 1) % 4 + ";";
            taken("quarters 6;" + is + other, 3);
            refused(is + is, 4, 18);
            refused(is + other + is, 4, 28);
        }
        refused("quarters 4;need 0 0;quarters 5;", 4, 20);
    }

    private static void fourthSister() {
        taken(PLAIN, 1);
        taken(PLAIN + PLAIN, 2);
        taken(THREE, 3);
        refused(THREE + PLAIN, 5, 63);
        refused(THREE + "need 0 1;" + PLAIN, 5, 72);
    }

    /** Sisters, quarters that there are not: the last that there is, the first that is not. */
    private static void behindAll() {
        String told = "";
        for (int sisters = 0; sisters <= 3; sisters++) {
            for (int s = 0; s < 3; s++) {
                there(s < sisters, "bed " + s + " 1;", told, 6, sisters + 1);
            }
            int watches = new int[] {1, 3, 9, 27}[sisters];
            for (int w = 0; w < 27; w++) {
                there(w < watches, "watch 3 " + w + ";", told, 7, sisters + 1);
            }
            told = told + PLAIN;
        }
        for (int q = 0; q < 6; q++) {
            there(true, "watch " + q + " 8;", PLAIN + "quarters 6;" + PLAIN, 7, 4);
            there(false, "watch " + q + " 9;", PLAIN + "quarters 6;" + PLAIN, 7, 4);
        }
        for (int quarters = 1; quarters <= 6; quarters++) {
            for (int q = 0; q < 6; q++) {
                there(q < quarters, "storm " + q + " 3;", "quarters " + quarters + ";", 6, 2);
                there(q < quarters, "watch " + q + " 0;", "quarters " + quarters + ";", 6, 2);
            }
        }
        // Four at first.
        there(true, "watch 3 0;", "", 6, 1);
        there(false, "watch 4 0;", "", 6, 1);
        there(true, "storm 3 0;", "", 6, 1);
        there(false, "storm 4 0;", "", 6, 1);
        String full = "watch 4 0;" + " ".repeat(310);
        refused(full, 6, 320);
        refused("watch 0 1;" + " ".repeat(310), 7, 320);
    }

    /** Ahead of what makes it there, behind it, and with blanks: the place is the length. */
    private static void there(boolean is, String line, String others, int fault, int lines) {
        String[] texts = {others + line, line + others, " " + others + line + "  "};
        for (String text : texts) {
            if (is) {
                taken(text, lines);
            } else {
                refused(text, fault, text.length());
            }
        }
    }

    /** The most lines that a tape can hold, to its last byte. */
    private static void fullTape() {
        StringBuilder t = new StringBuilder();
        for (int storm = 0; storm < 24; storm++) {
            t.append("storm").append(storm / 4).append(' ').append(storm % 4).append(';');
        }
        for (int side = 0; side < 4; side++) {
            t.append("need").append(side).append(" 6;");
        }
        t.append("quarters6;");
        for (int s = 0; s < 3; s++) {
            t.append("sister plain0 0 0 0;");
        }
        t.append("  ");
        Check.due("the tape is full", t.length(), 320);
        ThreeAwake x = new ThreeAwake();
        Check.taken(x, t.toString(), 32);
        Check.due("24 storms", x.count(4), 24);
        Check.due("three sisters", x.rule(0), 3);
        Check.due("the most that is needed", x.needed(3, 5), 7);
        t.setCharAt(319, ';');
        Check.refused(x, t.toString(), 2, 319);
        t.setCharAt(319, '?');
        Check.refused(x, t.toString(), 1, 319);
        t.setCharAt(319, ' ');
        t.setCharAt(317, ' ');
        Check.refused(x, t.toString(), 2, 320);
        Check.due("24 storms stay", x.count(4), 24);
    }

    /** What a text does not tell is as at first, whatever there was. */
    private static void inPlaceOfAll() {
        ThreeAwake x = Check.told(THREE + "quarters 6;need 0 6;need 3 1;storm 5 3;storm 0 0;watch 5 26;watch 0 1;bed 0 3;bed 2 1;");
        x.hear(5, 3, true);
        x.keep(0);
        x.keep(1);
        x.sheet(0, 2, 4);
        x.sheet(3, 1, 2);
        x.read(1, 0, 0, 1);
        Check.taken(x, PLAIN + "quarters 6;", 2);
        Check.due("one sister", x.rule(0), 1);
        Check.due("she lies as at first", x.sister(0, 1), 0);
        Check.due("nothing heard", x.count(0), 0);
        Check.due("no image", x.count(1), 0);
        Check.due("back(0)", x.back(0), ThreeAwake.STATE);
        Check.due("back(1)", x.back(1), ThreeAwake.STATE);
        Check.due("the sheets stay", x.count(3), 4);
        Check.due("each of them", x.lay(3, 1, 7), 1);
        Check.due("and nothing stays nothing", x.lay(1, 0, 7), -11);
        Check.due("torn() stays", x.torn(), 1);
        Check.due("no storm", x.count(4), 0);
        for (int q = 0; q < 6; q++) {
            Check.due("watch(" + q + ")", x.watch(q), 0);
            for (int side = 0; side < 4; side++) {
                Check.due("needed(" + side + ", " + q + ")", x.needed(side, q), 0);
            }
        }
        Check.taken(x, PLAIN + PLAIN, 2);
        Check.due("four quarters as at first", x.rule(1), 4);
        Check.due("watch(4)", x.watch(4), ThreeAwake.BAD);
        Check.due("the other lies as at first", x.sister(1, 1), 0);
        Check.due("there are two", x.sister(2, 1), ThreeAwake.BAD);
        Check.taken(x, "", 0);
        Check.due("nobody", x.rule(0), 0);
        Check.due("fault()", x.fault(), 0);
    }

    /** Whatever is told of her first eye, a glass one is not tired; each other eye is as told. */
    private static void howTired() {
        for (int v = 0; v <= 9; v++) {
            String[] kinds = {"plain", "glass", "visitor", "dreamer"};
            for (int kind = 0; kind < 4; kind++) {
                ThreeAwake x = Check.told("sister " + kinds[kind] + " 15 15 " + v + " " + (9 - v) + ";");
                Check.due("eye(0, 1) of " + kinds[kind] + ", " + v, x.eye(0, 1), kind == 1 ? 0 : v);
                Check.due("eye(1, 1) of " + kinds[kind] + ", " + v, x.eye(1, 1), 9 - v);
                Check.due("eye(0, 0) of " + kinds[kind], x.eye(0, 0), kind == 1 ? 0 : 15);
                Check.due("eye(1, 0) of " + kinds[kind], x.eye(1, 0), 15);
            }
        }
    }

    public static void main(String[] args) {
        everyByteFirst();
        everyByteBehindAName();
        everyByteBehindANumber();
        blanks();
        numbers();
        bounds();
        everyTokenOfALine();
        names();
        firstMet();
        toldAlready();
        fourthSister();
        behindAll();
        fullTape();
        inPlaceOfAll();
        howTired();
        Check.finish();
    }
}

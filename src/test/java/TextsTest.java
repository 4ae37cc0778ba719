/** Promises 24 to 28: feed, trim, text, textTold, why; and what TEXTS give. */
public final class TextsTest {
    private static final int BAD = OneStroke.BAD, FULL = OneStroke.FULL, NONE = OneStroke.NONE;
    private static final int MIN = Integer.MIN_VALUE, MAX = Integer.MAX_VALUE;

    public static void main(String[] args) {
        feed();
        trim();
        bytesInOrder();
        values();
        valuesThatWrap();
        faults();
        nested();
        longTexts();
        names();
        tapeIsUsedUp();
        full();
        textTold();
        why();
        Due.end("TextsTest");
    }

    private static void feed() {
        OneStroke x = new OneStroke();
        for (int k = 1; k <= 8; k++) {
            Due.due("feed " + k, x.feed(0, 0, 0), 12 * k);
        }
        Due.due("feed beyond 96", x.feed(0, 0, 0), FULL);
        Due.due("bytes then", x.count(8), 96);
        x.trim(85);
        Due.due("feed to 97", x.feed(0, 0, 0), FULL);
        Due.due("bytes stay", x.count(8), 85);
        x.trim(84);
        Due.due("feed to 96", x.feed(MIN, MAX, -1), 96);
    }

    private static void trim() {
        OneStroke x = new OneStroke();
        Due.due("trim(0) of nothing", x.trim(0), 0);
        Due.due("trim(1) of nothing", x.trim(1), BAD);
        x.feed(0, 0, 0);
        Due.due("trim(13)", x.trim(13), BAD);
        Due.due("trim(-1)", x.trim(-1), BAD);
        Due.due("trim(12)", x.trim(12), 12);
        Due.due("trim(5)", x.trim(5), 5);
        Due.due("trim(6)", x.trim(6), BAD);
        Due.due("bytes then", x.count(8), 5);
    }

    /** "fine 12+3*45": the highest byte of each number first. */
    private static void bytesInOrder() {
        OneStroke x = new OneStroke();
        Due.due("feed", x.feed(0x66696e65, 0x2031322b, 0x332a3435), 12);
        Due.due("text", x.text(), 0);
        Due.due("fine", x.fine(), 147);
        x.feed(0x66696e65, 0x2031322b, 0x332a3435);
        x.trim(8);
        x.feed(0x34202020, 0x20202020, 0x20202020);
        Due.due("bytes behind trimmed ones", x.text(), 1);
        Due.due("fine then", x.fine(), 16);
    }

    private static void gives(String expression, int want) {
        OneStroke x = new OneStroke();
        Due.due("text of " + expression, Tapes.law(x, "fine " + expression), 0);
        Due.due(expression, x.fine(), want);
    }

    private static void values() {
        Object[][] due = {{"0", 0}, {"9999", 9999}, {"0007", 7}, {"1+2*3", 7}, {"(1+2)*3", 9}, {"10-3-2", 5},
            {"10-(3-2)", 9}, {"24/4/2", 3}, {"24/4*2", 12}, {"24/(4*2)", 3}, {"7/2", 3}, {"(0-7)/2", -3}, {"0-7/2", -3},
            {"7/(0-2)", -3}, {"5/0", 0}, {"(0-5)/0", 0}, {"2<3", 1}, {"3<3", 0}, {"4<3", 0}, {"3=3", 1}, {"3=4", 0},
            {"3>2", 1}, {"3>3", 0}, {"2>3", 0}, {"(0-1)<0", 1}, {"1+1=2", 1}, {"2=1+1", 1}, {"2*3>5", 1}, {"5&7", 1},
            {"5&0", 0}, {"0&5", 0}, {"0&0", 0}, {"5|0", 1}, {"0|5", 1}, {"0|0", 0}, {"7|7", 1}, {"1|0&0", 1}, {"0&0|1", 1},
            {"(1|0)&0", 0}, {"1=1&2=2", 1}, {"1=1&2=3", 0}, {"1=2|2=2", 1}, {"!0", 1}, {"!5", 0}, {"!!5", 1}, {"!0+1", 2},
            {"!(0+1)", 0}, {"3*!0", 3}, {"!0*4", 4}, {"!1=0", 1}, {"(1<2)=1", 1}, {"1=(1<2)", 1}, {"0-1&1", 1},
            {"0-1|0", 1}, {"!(0-1)", 0}, {"m", 0}, {"b", 0}, {"m=b", 1}, {" ( 1 + 2 ) * 3 ", 9}, {"1 +2", 3}, {"! 0", 1},
            {"1|1&0=1+1*0", 1}, {"2+3*4-6/2", 11}, {"2+3*4-6/2<12", 1}, {"2+3*4-6/2<11", 0}};
        for (Object[] one : due) {
            gives((String) one[0], (Integer) one[1]);
        }
        OneStroke x = new OneStroke();
        Due.due("no blank ahead of (", Tapes.law(x, "fine(7)"), 0);
        Due.due("fine(7)", x.fine(), 7);
        Due.due("no blank ahead of !", Tapes.law(x, "  fine!0  "), 1);
        Due.due("fine!0", x.fine(), 1);
    }

    private static void valuesThatWrap() {
        gives("9999*9999*9999", 9999 * 9999 * 9999);
        gives("8192*8192*32", MIN);
        gives("8192*8192*32-1", MAX);
        gives("8192*8192*32/(0-1)", MIN);
        gives("0-8192*8192*32", MIN);
        gives("8192*8192*32<0", 1);
        gives("8192*8192*32/3", MIN / 3);
    }

    private static void fault(String signs, int place) {
        OneStroke x = new OneStroke();
        Due.due("text of \"" + signs + "\"", Tapes.law(x, signs), -100 - place);
        Due.due("there is no TEXT", x.count(6), 0);
    }

    private static void faults() {
        Object[][] due = {{"", 0}, {"  ", 2}, {"fine", 4}, {"fine  ", 6}, {"  fine", 6}, {"fin 1", 0}, {"finem", 0},
            {"finefine 1", 0}, {"  fined 1", 2}, {"Fine 1", 0}, {"gine 1", 0}, {"fino 1", 0}, {"finez 1", 0}, {"finea 1", 0},
            {"fine1 1", 4}, {"fine 9z", 6}, {"fine z9", 5}, {"1", 0}, {"(fine 1)", 0}, {"fine1", 4}, {"fine1+m", 4},
            {"fine 12345", 5}, {"fine 1+12345", 7}, {"fine 00000", 5}, {"fine 1 2", 7}, {"fine 1 m", 7}, {"fine m 1", 7},
            {"fine m b", 7}, {"fine mb", 5}, {"fine l", 5}, {"fine s", 5}, {"fine n", 5}, {"fine x", 5}, {"fine M", 5},
            {"fine fine", 5}, {"fine hear 1", 5}, {"fine 1m", 6}, {"fine m1", 6}, {"fine (1", 7}, {"fine (1))", 8},
            {"fine (", 6}, {"fine ()", 6}, {"fine )", 5}, {"fine 1)", 6}, {"fine 1+", 7}, {"fine 1+ ", 8}, {"fine +1", 5},
            {"fine -1", 5}, {"fine 1--1", 7}, {"fine 1*/2", 7}, {"fine 1!", 6}, {"fine 1!2", 6}, {"fine !", 6},
            {"fine !+", 6}, {"fine 1(2)", 6}, {"fine m(b)", 6}, {"fine (1)2", 8}, {"fine (1)(2)", 8}, {"fine 1<2<3", 8},
            {"fine 1=1=1", 8}, {"fine 1<2>3+4", 8}, {"fine 1<=2", 7}, {"fine 1=2&3=4=5", 12}, {"fine (1<2<3)", 9},
            {"fine 1&&1", 7}, {"fine 1||1", 7}, {"fine 1|", 7}, {"fine 1&", 7}, {"fine\t1", 4}, {"fine 1\n", 6},
            {"fine 1.5", 6}, {"fine 1%2", 6}, {"fine 1;", 6}, {"fine \u0000", 5}, {"fine 1 \u00ff", 7}, {"fine \u00b2", 5},
            {"\u0000", 0}, {"\u00ff", 0}, {"hear m", 5}, {"hear b", 5}, {"hear s", 5}, {"start l", 6}, {"start r", 6},
            {"start m", 6}, {"hear1", 4}, {"start1", 5}, {"hear", 4}, {"start ", 6}, {"fine (1+(2*3)", 13},
            {"fine 1 + 2 3", 11}, {"fine (m", 7}, {"fine m)", 6}};
        for (Object[] one : due) {
            fault((String) one[0], (Integer) one[1]);
        }
    }

    private static String many(String signs, int n) {
        return signs.repeat(n);
    }

    private static void nested() {
        gives(many("(", 8) + "3" + many(")", 8), 3);
        fault("fine " + many("(", 9) + "3" + many(")", 9), 5 + 8);
        gives(many("!", 8) + "3", 1);
        fault("fine " + many("!", 9) + "3", 5 + 8);
        gives(many("!(", 8) + "3" + many(")", 8), 1);
        fault("fine " + many("!(", 8) + "!3" + many(")", 8), 5 + 16);
        fault("fine " + many("!(", 8) + "(3)" + many(")", 8), 5 + 16);
        gives(many("!", 8) + many("(", 8) + "3" + many(")", 8), 1);
        gives(many("(1)+", 15) + "(1)", 16);
        gives(many("!0+", 15) + "!0", 16);
        gives("(((((((1))))))+(((((((1))))))))", 2);
        gives(many("!", 8) + "3+" + many("!", 8) + "3", 2);
        gives("!(" + many("!", 7) + "1)+!" + many("!", 7) + "1", 2);
        fault("fine (" + many("(", 7) + "1" + many(")", 7) + "+" + many("(", 8) + "1", 5 + 1 + 15 + 1 + 7);
    }

    private static void longTexts() {
        String longest = many("1+", 45) + "1";
        gives(longest, 46);
        OneStroke x = new OneStroke();
        Due.due("a TEXT of 96 bytes", Tapes.law(x, "fine " + longest), 0);
        Due.due("its NUMBERS", x.textTold(0, 1), 46);
        fault("fine  " + many("1+", 45), 96);
        fault("fine " + many("(1+", 8) + many("1-", 30) + "1)" + many(" ", 5), 96);
        fault("fine " + many(" ", 91), 96);
        gives(many(" ", 90) + "7", 7);
        gives("1" + many("0", 3) + many("*1", 40), 1000);
    }

    private static void names() {
        OneStroke x = new OneStroke();
        x.drummer(0, 4);
        x.drummer(0, 6);
        x.drummer(0, 5);
        x.set(0, 2, 3);
        x.set(2, 2, 8);
        Due.due("hear l, r, n", Tapes.law(x, "hear l=3&r=8&n=1"), 0);
        Due.due("of 0", x.told(0, 8), 0);
        Due.due("of 1", x.told(1, 8), 1);
        Due.due("of 2", x.told(2, 8), 0);
        Due.due("no neighbours", Tapes.law(x, "hear (l=0&n=0)+(r=0&n=2)"), 1);
        Due.due("of 0 then", x.told(0, 8), 1);
        Due.due("of 1 then", x.told(1, 8), 0);
        Due.due("of 2 then", x.told(2, 8), 1);
        Due.due("start s, n, b", Tapes.law(x, "start s-n+b*0"), 2);
        Due.due("0 wakes to", x.told(0, 9), 4);
        Due.due("1 wakes to", x.told(1, 9), 5);
        Due.due("2 wakes to", x.told(2, 9), 3);
    }

    private static void tapeIsUsedUp() {
        OneStroke x = new OneStroke();
        Due.due("a TEXT", Tapes.law(x, "fine 1"), 0);
        Due.due("bytes behind a TEXT", x.count(8), 0);
        Due.due("a FAULT", Tapes.law(x, "fine 1+"), -107);
        Due.due("bytes behind a FAULT", x.count(8), 0);
        Due.due("no bytes", x.text(), -100);
        Due.due("TEXTS", x.count(6), 1);
        Due.due("a FAULT does not count", x.fine(), 1);
        Due.due("a FAULT at a word", Tapes.law(x, "fine 1 2"), -107);
        Due.due("does not reach the next TEXT", Tapes.law(x, "fine 2"), 1);
    }

    private static void full() {
        OneStroke x = new OneStroke();
        for (int k = 0; k < 14; k++) {
            Due.due("TEXT " + k, Tapes.law(x, "fine " + k), k);
        }
        Due.due("the fifteenth", Tapes.law(x, "fine 99"), FULL);
        Due.due("bytes behind it", x.count(8), 0);
        Due.due("the fifteenth with a FAULT", Tapes.law(x, "fine 99 9"), -108);
        Due.due("TEXTS", x.count(6), 14);
        Due.due("the last one counts", x.fine(), 13);
        Due.due("why(2)", x.why(2), 13);
        x.keep();
        Due.due("back() with all TEXTS", x.back(), 0);
        Due.due("the last one counts then", x.fine(), 13);
        Due.due("soon() with all TEXTS", x.soon(), NONE);
    }

    private static void textTold() {
        OneStroke x = new OneStroke();
        Due.due("textTold(0, 0) without TEXTS", x.textTold(0, 0), BAD);
        Tapes.law(x, "fine (m+1)*!b|0&m<2000");
        Tapes.law(x, "hear l");
        Tapes.law(x, "start 7");
        int[][] want = {{2, 6}, {0, 1}, {1, 1}};
        for (int k = 0; k < 3; k++) {
            Due.due("KEY of " + k, x.textTold(k, 0), want[k][0]);
            Due.due("NUMBERS and NAMES of " + k, x.textTold(k, 1), want[k][1]);
        }
        int[][] wrong = {{3, 0}, {-1, 0}, {0, 2}, {0, -1}, {MIN, MIN}, {MAX, MAX}};
        for (int[] one : wrong) {
            Due.due("textTold(" + one[0] + ", " + one[1] + ")", x.textTold(one[0], one[1]), BAD);
        }
    }

    private static void why() {
        OneStroke x = new OneStroke();
        Due.due("why(-1)", x.why(-1), BAD);
        Due.due("why(3)", x.why(3), BAD);
        Due.due("why(0) at first", x.why(0), NONE);
        Tapes.law(x, "start 7");
        Tapes.law(x, "hear 1");
        Tapes.law(x, "start 3");
        Tapes.law(x, "fine 3");
        Due.due("why(0)", x.why(0), 1);
        Due.due("why(1)", x.why(1), 2);
        Due.due("why(2)", x.why(2), 3);
        x.drummer(0, 9);
        Due.due("the TEXT that was told last counts", x.told(0, 9), 3);
    }
}

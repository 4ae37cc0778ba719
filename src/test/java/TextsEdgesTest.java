/** The edges of promises 24 to 28, words by words: feed, trim, text, textTold, why. */
public final class TextsEdgesTest {
    private static final int BAD = OneStroke.BAD, FULL = OneStroke.FULL, NONE = OneStroke.NONE;
    private static final int MIN = Integer.MIN_VALUE, MAX = Integer.MAX_VALUE;

    public static void main(String[] args) {
        feed();
        feedInOrder();
        trim();
        keys();
        levels();
        tests();
        numbers();
        names();
        everyByte();
        blanks();
        wordsBehindWords();
        open();
        end();
        whole();
        truth();
        fourteen();
        usedUp();
        textTold();
        why();
        Run.end("TextsEdgesTest", 24, 28);
    }

    private static void fault(String words, String signs, int place) {
        Run.of(26, words).law("fine 77").tape(signs).usesTape("text()", -100 - place).due("count(6)", 1)
                .due("fine()", 77);
    }

    private static void gives(String words, String expression, int want) {
        Run.of(26, words).tape("fine " + expression).due("text()", 0).due("fine()", want);
    }

    private static void feed() {
        String words = "Twelve bytes come to THE TAPE, the highest of each number first: how many it has. FULL: it"
                + " would have more than 96.";
        Run run = Run.of(24, words);
        for (int k = 1; k <= 8; k++) {
            run.due("feed(0, MIN, MAX)", 12 * k);
        }
        run.stays("feed(0, 0, 0)", FULL).due("count(8)", 96).calls("trim(85)").stays("feed(0, 0, 0)", FULL)
                .due("count(8)", 85).calls("trim(84)").due("feed(-1, -1, -1)", 96).stays("feed(-1, -1, -1)", FULL)
                .calls("trim(0)").due("feed(0, 0, 0)", 12);
        Run.rich(24, "THE TAPE (96 bytes at most").tape("start s+n" + " ".repeat(76)).due("count(8)", 85)
                .stays("feed(0, 0, 0)", FULL).calls("trim(84)").due("feed(538976288, 538976288, 538976288)", 96)
                .stays("feed(0, 0, 0)", FULL).due("text()", 3);
        Run.of(24, words).calls("feed(0, 0, 0)", "trim(1)").due("feed(0, 0, 0)", 13).calls("trim(0)")
                .due("feed(0, 0, 0)", 12);
    }

    /** Each byte of twelve in turn: where it is no blank, it is the FAULT of an otherwise blank TAPE. */
    private static void feedInOrder() {
        String words = "Twelve bytes come to THE TAPE, the highest of each number first";
        for (int at = 0; at < 12; at++) {
            int[] numbers = {0x20202020, 0x20202020, 0x20202020};
            numbers[at / 4] ^= 0xdf << 24 - 8 * (at % 4);
            Run.of(24, words).calls("feed(" + numbers[0] + ", " + numbers[1] + ", " + numbers[2] + ")")
                    .due("text()", -100 - at);
            Run.of(24, words).calls("feed(538976288, 538976288, 538976288)", "feed(" + numbers[0] + ","
                    + " " + numbers[1] + ", " + numbers[2] + ")").due("text()", -112 - at);
        }
        Run.of(24, words).calls("feed(1718185573, 540095019, 858403893)").due("text()", 0).due("fine()", 12 + 3 * 45);
    }

    private static void trim() {
        String words = "THE TAPE keeps its first n bytes: n. BAD.";
        Run.of(25, words).stays("trim(-1)", BAD).stays("trim(0)", 0).stays("trim(1)", BAD).calls("feed(0, 0, 0)")
                .stays("trim(-1)", BAD).stays("trim(13)", BAD).stays("trim(12)", 12).due("trim(11)", 11)
                .stays("trim(12)", BAD).due("trim(0)", 0).stays("trim(1)", BAD);
        Run.rich(25, words).due("count(8)", 9).stays("trim(10)", BAD).stays("trim(-1)", BAD).stays("trim(MIN)", BAD)
                .stays("trim(MAX)", BAD).stays("trim(9)", 9).due("trim(7)", 7).due("text()", 3).due("told(1, 9)", 7);
        Run.of(25, words).times(8, "feed(0, 0, 0)").stays("trim(97)", BAD).stays("trim(96)", 96).due("trim(95)", 95)
                .stays("trim(96)", BAD);
        Run.of(25, words).tape("fine 1+2").calls("trim(6)").due("text()", 0).due("fine()", 1);
        Run.of(25, words).tape("fine 1+2").calls("trim(7)").due("text()", -107);
    }

    private static void keys() {
        String words = "KEY E. KEY: hear | start | fine.";
        Object[][] due = {{"", 0}, {"fin 1", 0}, {"finee 1", 0}, {"ine 1", 0}, {"Fine 1", 0}, {"fINE 1", 0},
            {"gine 1", 0}, {"fjne 1", 0}, {"fioe 1", 0}, {"finf 1", 0}, {"hea 1", 0}, {"hears 1", 0}, {"star 1", 0},
            {"starts 1", 0}, {"tart 1", 0}, {"1", 0}, {"m", 0}, {"(fine 1)", 0}, {"!fine 1", 0}, {"fine", 4},
            {"hear", 4}, {"start", 5}, {"fine fine 1", 5}, {"fine 1 fine 1", 7}, {"f ine 1", 0}, {"4 fine 1", 0}};
        for (Object[] one : due) {
            fault(words, (String) one[0], (Integer) one[1]);
        }
        Run.of(26, words).tape("hear 1").due("text()", 0).tape("start 1").due("text()", 1).tape("fine 1")
                .due("text()", 2);
    }

    private static void levels() {
        String words = "OR: AND { | AND }; AND: TEST { & TEST }; TEST: SUM [ (< | = | >) SUM ]; SUM: TERM { (+ | -)"
                + " TERM }; TERM: PIECE { (* | /) PIECE }";
        Object[][] due = {{"1|0&0", 1}, {"0&0|1", 1}, {"0&1=1", 0}, {"0=1&0", 0}, {"1+1=2", 1}, {"2=1+1", 1},
            {"2+3*4", 14}, {"2*3+4", 10}, {"9-3-2", 4}, {"9-3+2", 8}, {"24/4/2", 3}, {"24/4*2", 12}, {"2*7/4", 3},
            {"!0+1", 2}, {"!0*5", 5}, {"!5=0", 1}, {"0|0|0|2", 1}, {"3&3&3&0", 0}, {"(1|0)&0", 0}, {"(2+3)*4", 20},
            {"9-(3-2)", 8}, {"24/(4/2)", 12}, {"1<2&2>1|0", 1}, {"!(0|1)", 0}, {"5", 5}};
        for (Object[] one : due) {
            gives(words, (String) one[0], (Integer) one[1]);
        }
        for (char sign : "|&<=>+-*/".toCharArray()) {
            fault(words, "fine " + sign, 5);
            fault(words, "fine " + sign + "1", 5);
            fault(words, "fine 1" + sign, 7);
            fault(words, "fine (1" + sign + ")", 8);
            fault(words, "fine 1" + sign + sign + "1", 7);
            fault(words, "fine !" + sign + "1", 6);
            Run.of(26, words).tape("fine 1" + sign + "1").due("text()", 0);
        }
        fault(words, "fine -1", 5);
        fault(words, "fine 1!1", 6);
        fault(words, "fine 1(1)", 6);
        fault(words, "fine (1)(1)", 8);
    }

    private static void tests() {
        String words = "TEST: SUM [ (< | = | >) SUM ]";
        for (String first : new String[] {"<", "=", ">"}) {
            for (String second : new String[] {"<", "=", ">"}) {
                fault(words, "fine 1" + first + "2" + second + "3", 8);
                fault(words, "fine 1" + first + second + "3", 7);
                fault(words, "fine (1" + first + "2" + second + "3)", 9);
                fault(words, "fine 1" + first + "2&3" + second + "4" + first + "5", 12);
                Run.of(26, words).tape("fine 1" + first + "2|3" + second + "4").due("text()", 0)
                        .tape("fine (1" + first + "2)" + second + "3").due("text()", 1)
                        .tape("fine 1" + first + "(2" + second + "3)").due("text()", 2);
            }
        }
    }

    private static void numbers() {
        String words = "NUMBER (1 to 4 digits)";
        Object[][] due = {{"0", 0}, {"9", 9}, {"10", 10}, {"999", 999}, {"1000", 1000}, {"9999", 9999}, {"0000", 0},
            {"0009", 9}, {"0123", 123}};
        for (Object[] one : due) {
            gives(words, (String) one[0], (Integer) one[1]);
        }
        String more = "a NUMBER of more than 4 digits";
        fault(more, "fine 10000", 5);
        fault(more, "fine 00000", 5);
        fault(more, "fine 99999", 5);
        fault(more, "fine 1+10000", 7);
        fault(more, "fine " + "1".repeat(91), 5);
        fault(more, "fine 10000+(", 5);
        fault(more, "start 12345", 6);
    }

    private static void names() {
        String words = "NAMES, each one letter: of hear l SOUND of the neighbour with the lesser number, r that of the"
                + " other one, n its number;"
                + " of start s START, n its number, b THE BEAT; of fine m how many STROKES there were in all, b THE"
                + " BEAT";
        String[][] due = {{"hear", "lrn"}, {"start", "snb"}, {"fine", "mb"}};
        for (String[] one : due) {
            for (char name = 'a'; name <= 'z'; name++) {
                if (one[1].indexOf(name) >= 0) {
                    Run.of(26, words).tape(one[0] + " " + name).due("text()", 0).due("textTold(0, 1)", 1);
                } else {
                    fault(words, one[0] + " " + name, one[0].length() + 1);
                }
            }
            fault(words, one[0] + " " + one[1], one[0].length() + 1);
            fault(words, one[0] + " " + one[1].charAt(0) + one[1].charAt(0), one[0].length() + 1);
            fault(words, one[0] + " " + Character.toUpperCase(one[1].charAt(0)), one[0].length() + 1);
        }
    }

    /** Each byte at four places of a TEXT. */
    private static void everyByte() {
        String words = "A word is a row of letters a .. z, or of digits, as long as it goes; any other byte is a sign"
                + " by itself.";
        for (int sign = 0; sign < 256; sign++) {
            char one = (char) sign;
            boolean letter = one >= 'a' && one <= 'z';
            boolean digit = one >= '0' && one <= '9';
            at(words, one + "fine 1", one == ' ' ? -1 : 0);
            at(words, "fine" + one + "1", letter ? 0 : one == ' ' || one == '!' ? -1 : one == '(' ? 6 : 4);
            at(words, "fine " + one, digit || one == 'm' || one == 'b' ? -1 : " (!".indexOf(one) >= 0 ? 6 : 5);
            at(words, "fine 1" + one, digit || one == ' ' ? -1 : "|&<=>+-*/".indexOf(one) >= 0 ? 7 : 6);
        }
    }

    private static void at(String words, String signs, int place) {
        Run.of(26, words).tape(signs).due("text()", place < 0 ? 0 : -100 - place);
    }

    private static void blanks() {
        String words = "Between words and signs, and at the ends, there may be blanks (byte 32)";
        gives(words, "  ( 1 +  m )  * ! b  ", 1);
        Run.of(26, words).tape("   fine   7   ").due("text()", 0).due("fine()", 7);
        Run.of(26, words).tape(" ".repeat(90) + "fine!0").due("text()", 0).due("fine()", 1);
        Run.of(26, words).tape("fine" + " ".repeat(91) + "7").due("text()", 0).due("fine()", 7);
        Run.of(26, words).tape("fine 7" + " ".repeat(90)).due("text()", 0).due("fine()", 7);
        Run.of(26, words).tape("fine!0").due("text()", 0).due("fine()", 1);
        Run.of(26, words).tape("fine(7)").due("text()", 0).due("fine()", 7);
        fault(words, "fi ne 1", 0);
        fault(words, "fine 1 2", 7);
        fault(words, "fine m b", 7);
        fault(words, "fine 1\t", 6);
        fault(words, "fine\n1", 4);
        fault(words, "fine\u00a01", 4);
        fault(words, "fine\u00001", 4);
    }

    private static void wordsBehindWords() {
        String words = "a word right behind another one needs one.";
        fault(words, "fine1", 4);
        fault(words, "fine1+1", 4);
        fault(words, "hear1", 4);
        fault(words, "start9", 5);
        fault(words, "finem", 0);
        fault(words, "fine 1m", 6);
        fault(words, "fine m1", 6);
        fault(words, "fine (1m", 7);
        fault(words, "fine12345", 4);
        fault("(a word that needs a blank ahead of it", "  fine7", 6);
        gives(words, "1+m", 1);
        gives(words, "m+1", 1);
    }

    private static void open() {
        String brackets = "the ninth ( that would be open within others";
        gives(brackets, "(".repeat(8) + "3" + ")".repeat(8), 3);
        fault(brackets, "fine " + "(".repeat(9) + "3" + ")".repeat(9), 13);
        fault(brackets, "fine " + "( ".repeat(9) + "3", 21);
        gives(brackets, "(1)+".repeat(9) + "(1)", 10);
        gives(brackets, "(".repeat(8) + "3" + ")".repeat(8) + "+" + "(".repeat(8) + "4" + ")".repeat(8), 7);
        fault(brackets, "fine (" + "(".repeat(7) + "1" + ")".repeat(7) + "+" + "(".repeat(8) + "1", 29);
        gives(brackets, "(" + "(".repeat(7) + "1" + ")".repeat(7) + "+" + "(".repeat(7) + "1" + ")".repeat(8), 2);
        String nots = "the ninth ! likewise, each by itself";
        gives(nots, "!".repeat(8) + "3", 1);
        gives(nots, "!".repeat(7) + "3", 0);
        fault(nots, "fine " + "!".repeat(9) + "3", 13);
        fault(nots, "fine " + "! ".repeat(9) + "3", 21);
        gives(nots, "!0+".repeat(9) + "!0", 10);
        gives(nots, "!".repeat(8) + "3+" + "!".repeat(8) + "3", 2);
        gives(nots, "!(".repeat(8) + "3" + ")".repeat(8), 1);
        gives(nots, "!".repeat(8) + "(".repeat(8) + "3" + ")".repeat(8), 1);
        gives(nots, "(".repeat(8) + "!".repeat(8) + "3" + ")".repeat(8), 1);
        fault(nots, "fine " + "!(".repeat(8) + "!3", 21);
        fault(nots, "fine " + "!(".repeat(8) + "(3", 21);
        fault(nots, "fine !(" + "!".repeat(7) + "1+" + "!".repeat(8) + "1)", 23);
        gives(nots, "!(" + "!".repeat(7) + "1+" + "!".repeat(7) + "1)", 1);
        gives(nots, "!(1)+" + "!".repeat(8) + "1", 1);
    }

    private static void end() {
        String words = "the end (the place behind the last byte), if it comes too soon.";
        Object[][] due = {{"", 0}, {" ", 1}, {"fine", 4}, {"fine ", 5}, {"fine (", 6}, {"fine (1", 7},
            {"fine (1  ", 9}, {"fine !", 6}, {"fine 1+", 7}, {"fine 1 + ", 9}, {"fine ((1)", 9}, {"hear l&", 7},
            {" ".repeat(96), 96}, {"fine " + " ".repeat(91), 96}, {"fine  " + "1+".repeat(45), 96},
            {" ".repeat(92) + "fine", 96}, {"fine (" + "1".repeat(4) + " ".repeat(86), 96}};
        for (Object[] one : due) {
            fault(words, (String) one[0], (Integer) one[1]);
        }
        fault("FAULT: the first byte of the first word or sign with which no TEXT goes on", "fine )" + ""
                + " ".repeat(90), 5);
        fault("FAULT: the first byte of the first word or sign with which no TEXT goes on", "fine 1" + ""
                + " ".repeat(89) + ")", 95);
        fault("FAULT: the first byte of the first word or sign with which no TEXT goes on", "fine ) 1 2 ((", 5);
        gives("THE TAPE (96 bytes at most", "1+".repeat(45) + "1", 46);
        gives("THE TAPE (96 bytes at most", " ".repeat(87) + "1234", 1234);
    }

    private static void whole() {
        Object[][] due = {{"7/2", 3}, {"(0-7)/2", -3}, {"7/(0-2)", -3}, {"(0-7)/(0-2)", 3}, {"1/2", 0}, {"(0-1)/2", 0},
            {"6/3", 2}};
        for (Object[] one : due) {
            gives("All numbers are whole; / cuts towards 0.", (String) one[0], (Integer) one[1]);
        }
        gives("Ints wrap", "8192*8192*32", MIN);
        gives("Ints wrap", "8192*8192*32-1", MAX);
        gives("Ints wrap", "8192*8192*32-1+1", MIN);
        gives("Ints wrap", "0-8192*8192*32", MIN);
        gives("Ints wrap", "8192*8192*32/(0-1)", MIN);
        gives("Ints wrap", "8192*8192*64", 0);
        gives("Ints wrap", "9999*9999*9999", 9999 * 9999 * 9999);
        gives("Ints wrap", "8192*8192*32<0", 1);
        gives("Ints wrap", "8192*8192*32<8192*8192*32-1", 1);
        gives("/ is 0 by 0", "5/0", 0);
        gives("/ is 0 by 0", "0/0", 0);
        gives("/ is 0 by 0", "(0-5)/0", 0);
        gives("/ is 0 by 0", "8192*8192*32/0", 0);
        gives("/ is 0 by 0", "5/0+3", 3);
        gives("/ is 0 by 0", "0/5", 0);
    }

    private static void truth() {
        String words = "tests, & | ! give 1 or 0 (what is not 0 is true; both sides are worked out).";
        Object[][] due = {{"1<2", 1}, {"2<2", 0}, {"3<2", 0}, {"1=2", 0}, {"2=2", 1}, {"3=2", 0}, {"1>2", 0},
            {"2>2", 0}, {"3>2", 1}, {"5&7", 1}, {"5&0", 0}, {"0&7", 0}, {"0&0", 0}, {"2&1", 1}, {"5|7", 1}, {"5|0", 1},
            {"0|7", 1}, {"0|0", 0}, {"!0", 1}, {"!1", 0}, {"!2", 0}, {"!(0-1)", 0}, {"(0-1)&(0-1)", 1}, {"(0-1)|0", 1},
            {"0|(0-1)", 1}, {"1|1/0", 1}, {"0&1/0", 0}, {"!!7", 1}};
        for (Object[] one : due) {
            gives(words, (String) one[0], (Integer) one[1]);
        }
    }

    private static Run fourteenTexts(int promise, String words) {
        Run run = Run.of(promise, words);
        for (int k = 0; k < 14; k++) {
            run.tape("fine " + k).due("text()", k).due("count(6)", k + 1);
        }
        return run;
    }

    private static void fourteen() {
        fourteenTexts(26, "TEXTS, 14 at most, numbered from 0").tape("fine 99").usesTape("text()", FULL)
                .due("count(6)", 14).due("fine()", 13).tape("hear 1").usesTape("text()", FULL).due("why(0)", NONE)
                .due("why(2)", 13);
        fourteenTexts(26, "-100 less the place of its FAULT; FULL.").tape("fine 99 9").usesTape("text()", -108)
                .tape("fine").usesTape("text()", -104).usesTape("text()", -100).tape("fine 99").usesTape("text()", FULL)
                .due("count(6)", 14);
        Run.of(26, "TEXTS, 14 at most, numbered from 0").calls("keep()").law("fine 3").calls("back()")
                .due("count(6)", 0).tape("fine 4").due("text()", 0).due("fine()", 4);
        fourteenTexts(26, "TEXTS, 14 at most, numbered from 0").calls("keep()", "back()").tape("fine 9")
                .usesTape("text()", FULL);
    }

    private static void usedUp() {
        String words = "an act that reads it uses it up, whatever it answers";
        Run.of(26, words).tape("fine 1").due("text()", 0).due("count(8)", 0).stays("text()", -100).tape("fine 1+")
                .due("text()", -107).due("count(8)", 0).stays("text()", -100);
        Run.rich(26, words).tape("fine 1)").usesTape("text()", -106).usesTape("text()", -100);
        Run.rich(26, words).tape("fine 12345 ").usesTape("text()", -105).calls("feed(0, 0, 0)").due("count(8)", 12);
        Run.of(26, words).tape("fine 1 2").due("text()", -107).tape("fine 2").due("text()", 0).due("fine()", 2);
    }

    private static void textTold() {
        String words = "Of a TEXT: what 0 KEY (0 hear, 1 start, 2 fine), 1 how many NUMBERS and NAMES it has. BAD.";
        Run.of(27, words).stays("textTold(0, 0)", BAD).stays("textTold(-1, 0)", BAD).law("hear l")
                .stays("textTold(-1, 0)", BAD).stays("textTold(0, -1)", BAD).stays("textTold(0, 0)", 0)
                .stays("textTold(0, 1)", 1).stays("textTold(0, 2)", BAD).stays("textTold(1, 0)", BAD).law("start s+9")
                .stays("textTold(1, 0)", 1).stays("textTold(1, 1)", 2).law("fine " + "1+".repeat(45) + "1")
                .stays("textTold(2, 0)", 2).stays("textTold(2, 1)", 46).stays("textTold(3, 1)", BAD);
        fourteenTexts(27, words).stays("textTold(13, 0)", 2).stays("textTold(14, 0)", BAD);
        for (String far : new String[] {"MIN", "MAX"}) {
            Run.rich(27, words).stays("textTold(" + far + ", 0)", BAD).stays("textTold(0, " + far + ")", BAD);
        }
        Run.of(27, words).law("fine !(m+b)*1234").stays("textTold(0, 1)", 3).tape("fine 1+2+").due("text()", -109)
                .law("fine 5").stays("textTold(1, 1)", 1).calls("keep()").law("fine 6").calls("back()")
                .stays("textTold(1, 0)", 2).stays("textTold(2, 0)", BAD);
    }

    private static void why() {
        String words = "The TEXT that counts for a KEY. BAD; NONE.";
        Run.of(28, words).stays("why(-1)", BAD).stays("why(0)", NONE).stays("why(1)", NONE).stays("why(2)", NONE)
                .stays("why(3)", BAD).stays("why(MIN)", BAD).stays("why(MAX)", BAD);
        Run.of(28, "Of a KEY that TEXT counts that was told last.").law("start 7").law("hear 1").law("start 3")
                .stays("why(-1)", BAD).stays("why(0)", 1).stays("why(1)", 2).stays("why(2)", NONE).stays("why(3)", BAD)
                .law("fine 9").stays("why(2)", 3).law("hear 0").stays("why(0)", 4).calls("drummer(0, 9)")
                .due("told(0, 9)", 3).due("told(0, 8)", 0);
        fourteenTexts(28, words).stays("why(2)", 13).stays("why(0)", NONE);
        Run.of(28, words).law("fine 1").calls("keep()").law("fine 2").law("hear 1").calls("back()").stays("why(2)", 0)
                .stays("why(0)", NONE);
        Run.of(28, words).law("fine 1").tape("fine 2 2").due("text()", -107).stays("why(2)", 0);
    }
}

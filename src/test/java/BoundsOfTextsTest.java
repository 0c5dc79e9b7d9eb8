/**
 * The boundary cases that the terms of TEXTS and promises 24 to 28 name, sentence by sentence. What is refused stands
 * in RefusedTest, too.
 */
public final class BoundsOfTextsTest {
    private static final int BAD = Due.BAD, FULL = Due.FULL, NONE = Due.NONE;

    public static void main(String[] args) {
        twelveBytesUpToNinetySix();
        whatIsRefusedLeavesTheBytes();
        theHighestByteFirst();
        trimToTheEnds();
        anActThatReadsUsesUp();
        wordsAndSigns();
        blanks();
        aWordRightBehindAnotherOne();
        keys();
        namesOfEachKey();
        numbersOfOneToFourDigits();
        theNinthOpenOne();
        theNinthNot();
        eachByItself();
        theEndTooSoon();
        theFirstFault();
        oneTestAlone();
        theLoosestFirst();
        intsWrap();
        byNothing();
        oneOrNothing();
        fourteenTexts();
        roomForTextsAgain();
        leaves();
        thatWasToldLast();
        theEndsOfNames();
        Due.end();
    }

    private static final int BLANKS = 0x20202020;

    /** "TWELVE bytes come to THE TAPE: how many it has. FULL: it would have more than 96". */
    private static void twelveBytesUpToNinetySix() {
        Script s = new Script();
        for (int k = 1; k <= 8; k++) {
            s.then("feed 0 0 0", 12 * k).then("count 8", 12 * k);
        }
        s.then("feed 0 0 0", FULL).then("count 8", 96);
        int[] kept = {96, 95, 86, 85, 84, 83, 73, 72, 1, 0};
        for (int n : kept) {
            Script t = new Script();
            for (int k = 0; k < 8; k++) {
                t.go("feed 0 0 0");
            }
            t.then("trim " + n, n).then("feed 1 1 1", n > 84 ? FULL : n + 12).then("count 8", n > 84 ? n : n + 12);
        }
    }

    /** A feed that is FULL leaves THE TAPE as it is, to the byte. */
    private static void whatIsRefusedLeavesTheBytes() {
        Script.of("tape fee 12" + "+2".repeat(45)).then("feed -1 -1 -1", FULL).then("count 8", 96).then("text", 0).then("fee", 102);
        Script.of("tape fee 1" + "+2".repeat(40)).then("count 8", 85).then("feed -1 -1 -1", FULL).then("count 8", 85)
            .then("text", 0).then("fee", 81);
        Script.of("tape fee 1" + " ".repeat(79)).then("count 8", 84).then("feed " + BLANKS + " " + BLANKS + " " + BLANKS, 96)
            .then("text", 0).then("fee", 1);
        Script.of("tape fee 31").then("trim 7", BAD).then("trim -1", BAD).then("text", 0).then("fee", 31);
    }

    /** "The highest of each number first", of numbers below 0, too. */
    private static void theHighestByteFirst() {
        int fee = 'f' << 24 | 'e' << 16 | 'e' << 8 | ' ';
        int sum = '1' << 24 | '2' << 16 | '*' << 8 | '3';
        int more = '+' << 24 | '(' << 16 | '4' << 8 | ')';
        new Script().then("feed " + fee + " " + sum + " " + more, 12).then("text", 0).then("fee", 40);
        new Script().then("feed " + fee + " " + more + " " + sum, 12).then("text", -104);
        new Script().then("feed " + fee + " " + (0xe1 << 24 | BLANKS >>> 8) + " " + BLANKS, 12).then("text", -104);
        new Script().then("feed " + fee + " " + ('c' << 24 | 0x2020ff) + " " + BLANKS, 12).then("text", -107);
        new Script().then("feed " + fee + " " + ('c' << 24 | 0x80) + " " + BLANKS, 12).then("text", -105);
        new Script().then("feed -1 -1 -1", 12).then("text", -100);
    }

    /** "THE TAPE keeps its first n bytes: n": all of them, or none; what is cut off is gone. */
    private static void trimToTheEnds() {
        new Script().then("trim 0", 0).then("trim 1", BAD).then("trim -1", BAD).then("text", -100);
        Script.of("tape fee 12").then("trim 6", 6).then("trim 7", BAD).then("trim 5", 5).then("trim 6", BAD).then("count 8", 5)
            .then("text", 0).then("fee", 1);
        Script.of("tape fee 12").then("trim 0", 0).then("count 8", 0).then("text", -100);
        Script.of("tape fee (1)").then("trim 6", 6).then("text", -106);
        Script.of("tape fee 12").then("trim 5", 5).then("feed " + ('+' << 24 | '3' << 16 | 0x2020) + " " + BLANKS + " " + BLANKS, 17)
            .then("text", 0).then("fee", 4);
    }

    /** "An act that reads it uses it up, whatever it answers". */
    private static void anActThatReadsUsesUp() {
        new Script().then("law fee 1", 0).then("count 8", 0).then("text", -100);
        new Script().then("law fee 1 1", -106).then("count 8", 0).then("text", -100);
        Script s = new Script();
        for (int k = 0; k < 14; k++) {
            s.go("law fee 1");
        }
        s.then("law fee 1", FULL).then("count 8", 0).then("text", -100).then("count 6", 14);
    }

    /** Of each text the place of its FAULT. */
    private static void faults(Object... rows) {
        for (int k = 0; k < rows.length; k += 2) {
            new Script().then("law " + rows[k], -100 - (Integer) rows[k + 1]).then("count 6", 0).then("count 8", 0)
                .then("why 0", NONE).then("why 1", NONE).then("why 2", NONE);
        }
    }

    private static void sound(String... texts) {
        for (String text : texts) {
            new Script().then("law " + text, 0).then("count 6", 1).then("count 8", 0);
        }
    }

    /** "A word is a row of letters a .. z, or of digits, as long as it goes; any other byte is a sign by itself". */
    private static void wordsAndSigns() {
        faults("dues `", 5, "dues {", 5, "dues a", 5, "dues z", 5, "dues oz", 5, "dues ao", 5, "dues oa", 5, "dues zo", 5, "dues o`", 6, "dues o{", 6,
            "dues A", 5, "dues oO", 6, "dues 1/", 7, "dues 1:", 6, "dues :", 5, "dues /", 5, "dues 1:2", 6, "dues 1'", 6,
            "dues 1;", 6, "dues 1,2", 6, "dues 1.5", 6, "dues [1]", 5, "dues {1}", 5, "dues 1%2", 6, "dues 1^2", 6,
            "dues 1?2", 6, "dues 1@", 6, "dues #", 5, "dues $1", 5, "dues \"1\"", 5, "dues _", 5, "dues ~1", 5,
            "dues \u00e9", 5, "dues 1\u00ff", 6, "dues \u00df", 5, "dues \u00b2", 5, "dues \0", 5, "dues \u0001", 5,
            "Dues 1", 0, "dUes 1", 0, "FEE 1", 0, "\u00e6", 0);
        sound("dues 0", "dues 9", "dues 1/2", "dues o", "dues(1)", "fee c*c/y");
    }

    /** "Between words and signs, and at the ends, there may be blanks (byte 32)": other bytes are no blanks. */
    private static void blanks() {
        sound("dues 1", "   dues 1", "dues    1", "dues 1   ", "  dues  (  o  +  1  )  *  !  m  ", "dues(o+1)*!m", "dues ! ! !o",
            "dues o<1", "dues o < 1", "dues!o", "dues 1|1&1", "fine ( ( p ) )");
        faults("\tdues 1", 0, "dues\t1", 4, "dues 1\t", 6, "dues 1\n", 6, "dues 1\r", 6, "dues \u00a01", 5, "dues 1\0", 6,
            "dues\n1", 4, " \tdues 1", 1, "dues 1 \t", 7, "dues\f1", 4, "dues 1\u001f", 6, "dues 1!", 6);
    }

    /** "A word right behind another one needs one": its FAULT is the first byte of the word that needs it. */
    private static void aWordRightBehindAnotherOne() {
        faults("dues1", 4, "dues0000", 4, "fee5", 3, "fine1", 4, "fee 1c", 5, "fee c1", 5, "fee 12c", 6, "dues1o", 4,
            "  dues1", 6, "1dues", 0, "1dues 1", 0, "fee 1 c", 6, "fee c 1", 6, "fee c c", 6, "fee 1 1", 6, "fee cc", 4,
            "fee cy", 4, "feec", 0, "duesdues 1", 0, "dues1+1", 4, "dues12345", 4, "fee c+1y", 7, "fee c+y1", 7,
            "fee (1)c", 7, "fee (1)(c)", 7, "fee c(1)", 5, "fee 1!c", 5, "fee fee", 4, "dues dues", 5, "dues dues 1", 5);
        sound("dues 1", "dues(1)", "dues!1", "fee 1+c", "fee !c", "fee c<1", "fee (c)");
    }

    /** "KEY: dues | fee | fine". */
    private static void keys() {
        faults("due 1", 0, "duess 1", 0, "fe 1", 0, "feee 1", 0, "fin 1", 0, "fines 1", 0, "d", 0, "f", 0, "xees 1", 0,
            "dues", 4, "fee", 3, "fine", 4, "1", 0, "o", 0, "(", 0, "!", 0, "+", 0, "0000", 0, "  x", 2, "  12345", 2,
            "fine fee 1", 5, "dueso", 0, "feeo", 0, "duex 1", 0, "dxes 1", 0, "fexe 1", 0, "du es 1", 0, "fi ne 1", 0);
        new Script().then("law dues 1", 0).then("textTold 0 0", 0).then("law fee 1", 1).then("textTold 1 0", 1)
            .then("law fine 1", 2).then("textTold 2 0", 2);
    }

    /** "NAMES, each one letter: of dues o f m; of fee c y; of fine o p". */
    private static void namesOfEachKey() {
        String[] keys = {"dues ", "fee ", "fine "};
        String[] names = {"ofm", "cy", "op"};
        for (int k = 0; k < 3; k++) {
            for (char c = 'a'; c <= 'z'; c++) {
                boolean is = names[k].indexOf(c) >= 0;
                int fault = -100 - keys[k].length();
                new Script().then("law " + keys[k] + c, is ? 0 : fault).then("law " + keys[k] + "1+" + c, is ? 1 : fault - 2)
                    .then("law " + keys[k] + c + c, fault).then("count 6", is ? 2 : 0);
            }
        }
    }

    /** "NUMBER (1 to 4 digits)"; "a NUMBER of more than 4 digits". */
    private static void numbersOfOneToFourDigits() {
        String[] numbers = {"0", "9", "00", "99", "000", "999", "0000", "9999", "0007", "1000"};
        for (String n : numbers) {
            new Script().then("law fee " + n, 0).then("fee", Integer.parseInt(n)).then("textTold 0 1", 1);
        }
        faults("fee 00000", 4, "fee 10000", 4, "fee 12345", 4, "fee 99999", 4, "fee  00001", 5, "fee(12345)", 4,
            "fee 1+12345", 6, "fee 12345+", 4, "fee !00000", 5, "fee " + "1".repeat(92), 4, "fee 1234 5", 9, "fee 1234c", 8);
    }

    private static String open(String sign, int many) {
        return sign.repeat(many);
    }

    private static String nested(int many) {
        return open("(", many) + "c" + open(")", many);
    }

    /** "The ninth ( that would be open within others": those that are closed count no more. */
    private static void theNinthOpenOne() {
        sound("fee " + nested(1), "fee " + nested(7), "fee " + nested(8), "fee " + nested(8) + "+" + nested(8),
            "fee ((((((((c)+(c))+(c)))))))", "fee (c)+(c)+(c)+(c)+(c)+(c)+(c)+(c)+(c)+(c)", "fee ((((((((c))))))))+(c)",
            "fee ( ( ( ( ( ( ( ( c ) ) ) ) ) ) ) )", "fee (((((((c<(1)+(1)*(1))))))))");
        faults("fee " + nested(9), 12, "fee " + nested(10), 12, "fee " + open("(", 9), 12, "fee " + open("(", 8), 12,
            "fee  " + nested(9), 13, "fee ( ( ( ( ( ( ( ( ( c", 20, "fee " + nested(8) + "+" + nested(9), 30,
            "fee ((((((((c)+((c))))))))", 16, "fee ((((((((c))))))))+(((((((((c", 30, "fee (((((((((", 12, "fee 1+" + nested(9), 14);
    }

    /** "The ninth ! likewise": in a row, or with others between. */
    private static void theNinthNot() {
        sound("fee " + open("!", 1) + "c", "fee " + open("!", 8) + "c", "fee " + open("!", 8) + "c+" + open("!", 8) + "c",
            "fee !c+!c+!c+!c+!c+!c+!c+!c+!c+!c", "fee ! ! ! ! ! ! ! ! c", "fee !!!!(!c+!!!c+!!!!c)", "fee !!!!!!!(!c+!c+!c)",
            "fee !!!!!!!!(c)");
        faults("fee " + open("!", 9) + "c", 12, "fee " + open("!", 10) + "c", 12, "fee " + open("!", 9), 12,
            "fee " + open("!", 8), 12, "fee c+" + open("!", 9) + "c", 14, "fee !!!!!!!!(!c)", 13, "fee !!!!(!!!!!c)", 13,
            "fee !(!!!!!!!!c)", 13, "fee !!!!!!!(!c+!!c)", 16, "fee ! ! ! ! ! ! ! ! ! c", 20, "fee !!!!!!!!c+!!!!!!!!!c", 22);
    }

    /** "Each by itself": eight ( and eight ! may be open within one another. */
    private static void eachByItself() {
        sound("fee " + open("!(", 8) + "c" + open(")", 8), "fee " + open("(", 8) + open("!", 8) + "c" + open(")", 8),
            "fee " + open("!", 8) + nested(8), "fee " + open("!(", 4) + "c" + open(")", 4) + "+" + open("(!", 8) + "c" + open(")", 8));
        faults("fee " + open("!(", 8) + "!c" + open(")", 8), 20, "fee " + open("!(", 8) + "(c)" + open(")", 8), 20,
            "fee " + open("(!", 8) + "!c" + open(")", 8), 20, "fee " + open("(!", 8) + "(c)" + open(")", 8), 20,
            "fee " + open("(", 8) + open("!", 9) + "c", 20, "fee " + open("!", 8) + nested(9), 20);
    }

    /** "The end (the place behind the last byte), if it comes too soon": behind blanks, too. */
    private static void theEndTooSoon() {
        faults("", 0, " ", 1, "      ", 6, "dues", 4, "dues ", 5, "dues   ", 7, "dues (", 6, "dues ( ", 7, "dues (o", 7,
            "dues (o ", 8, "dues ((o)", 9, "dues !", 6, "dues ! ", 7, "dues o+", 7, "dues o+ ", 8, "dues o<", 7, "dues o=", 7,
            "dues o>", 7, "dues o-", 7, "dues o*", 7, "dues o/", 7, "dues o&", 7, "dues o|", 7, "dues (o+", 8, "dues !(", 7);
        faults("dues 12" + "+2".repeat(44) + "+", 96, "dues 1" + "+2".repeat(44) + "+ ", 96, "dues 1" + "+2".repeat(44) + "+", 95, " ".repeat(96), 96, " ".repeat(95), 95,
            "dues " + " ".repeat(91), 96, " ".repeat(92) + "dues", 96, " ".repeat(93) + "fee", 96, " ".repeat(91) + "dues(", 96,
            " ".repeat(92) + "fee!", 96);
        sound("dues 1" + "+2".repeat(45), "dues" + " ".repeat(91) + "1", " ".repeat(90) + "dues 1", " ".repeat(91) + "fee 1",
            "fee 1" + " ".repeat(91));
    }

    /** "The first byte of the first word or sign with which no TEXT goes on": of several faults the first. */
    private static void theFirstFault() {
        faults("dues ) (", 5, "dues 1 12345 x", 7, "x dues", 0, "dues + + +", 5, "dues 12345 o o", 5, "dues o o 12345", 7,
            "dues ()", 6, "dues (1))", 8, "dues 1)", 6, "dues +1", 5, "dues -1", 5, "dues *1", 5, "dues <1", 5, "dues &1", 5,
            "dues |1", 5, "dues 1++1", 7, "dues 1+-1", 7, "dues 1**1", 7, "dues 1!", 6, "dues 1!=2", 6, "dues (1+)", 8,
            "dues !)", 6, "dues !+1", 6, "dues (1 2)", 8, "dues (o", 7, "fee o", 4, "fee 1+m", 6, "dues    x", 8, "fine f", 5);
    }

    /** "TEST: SUM [ (< | = | >) SUM ]": one sign alone. */
    private static void oneTestAlone() {
        sound("fee c<1", "fee c=1", "fee c>1", "fee (c<1)<1", "fee c<(1<2)", "fee c<1&c>2|c=3", "fee !(c<1)");
        faults("fee c<1<2", 7, "fee c<1=2", 7, "fee c=1>2", 7, "fee c>1 < 2", 8, "fee c<=1", 6, "fee c>=1", 6, "fee c<>1", 6,
            "fee c==1", 6, "fee c&&1", 6, "fee c||1", 6, "fee c<1&c<2<3", 11, "fee (c<1<2)", 8);
    }

    private static void fee(Object... rows) {
        for (int k = 0; k < rows.length; k += 2) {
            new Script().then("law fee " + rows[k], 0).then("fee", (Integer) rows[k + 1]);
        }
    }

    /** "E, the loosest first: OR, AND, TEST, SUM, TERM, PIECE"; sides go from the left. */
    private static void theLoosestFirst() {
        fee("1|0&0", 1, "0&0|1", 1, "(1|0)&0", 0, "0&(0|1)", 0, "1&2<3", 1, "2<1&1", 0, "2<(1&1)", 0, "0<1&1", 1, "2=1+1", 1,
            "1+2=3", 1, "1+(2=3)", 1, "2+3*4", 14, "(2+3)*4", 20, "2*3+4", 10, "10-4-3", 3, "10-(4-3)", 9, "100/10/5", 2,
            "100/(10/5)", 50, "7*3/2", 10, "7/2*3", 9, "!0+1", 2, "!(0+1)", 0, "!0*5", 5, "!3<1", 1, "!(3<1)", 1, "!0|0", 1,
            "3|4", 1, "3&4", 1, "5", 5, "(5)", 5, "8-2+1", 7, "8/2*2", 8, "1-1|0", 0);
    }

    /** "Ints wrap". */
    private static void intsWrap() {
        fee("8192*8192*31+8192*8191+8191", Integer.MAX_VALUE, "8192*8192*32-1", Integer.MAX_VALUE, "8192*8192*32", Integer.MIN_VALUE,
            "0-8192*8192*32", Integer.MIN_VALUE, "8192*8192*32-1+1", Integer.MIN_VALUE, "0-8192*8192*32-1", Integer.MAX_VALUE,
            "8192*8192*64", 0, "8192*8192*32*2", 0, "8192*8192*32*3", Integer.MIN_VALUE, "9999*9999*9999", 9999 * 9999 * 9999,
            "8192*8192*32/(0-1)", Integer.MIN_VALUE, "8192*8192*32*(0-1)", Integer.MIN_VALUE, "8192*8192*32<0", 1,
            "8192*8192*32-1<0", 0, "8192*8192*32-1>8192*8192*32", 1, "(8192*8192*32-1)*2", -2, "(8192*8192*32)/2", -1073741824);
    }

    /** "/ cuts towards 0"; "/ is 0 by 0". */
    private static void byNothing() {
        fee("7/2", 3, "(0-7)/2", -3, "7/(0-2)", -3, "(0-7)/(0-2)", 3, "1/2", 0, "(0-1)/2", 0, "0/5", 0, "5/0", 0, "0/0", 0,
            "(0-5)/0", 0, "5/(1-1)", 0, "5/0+3", 3, "5/c", 0, "c/c", 0, "5/0/0", 0, "8192*8192*32/0", 0, "5/1", 5, "5/(0-1)", -5);
    }

    /** "Tests, & | ! give 1 or 0 (what is not 0 is true)". */
    private static void oneOrNothing() {
        fee("1<2", 1, "2<2", 0, "3<2", 0, "1=2", 0, "2=2", 1, "3=2", 0, "1>2", 0, "2>2", 0, "3>2", 1, "(0-1)<0", 1, "0>(0-1)", 1,
            "0&0", 0, "0&2", 0, "2&0", 0, "2&4", 1, "(0-1)&(0-2)", 1, "0|0", 0, "0|2", 1, "2|0", 1, "2|4", 1, "(0-1)|0", 1,
            "0|(0-9)", 1, "!0", 1, "!1", 0, "!2", 0, "!(0-1)", 0, "!!0", 0, "!!7", 1, "!!!7", 0, "!!!!!!!!7", 1, "!!!!!!!7", 0,
            "0&5/0", 0, "1|5/0", 1);
    }

    /** "TEXTS, 14 at most, numbered from 0"; "FULL". */
    private static void fourteenTexts() {
        String[] keys = {"dues ", "fee ", "fine "};
        Script s = Script.of("person 0 0 0");
        for (int k = 0; k < 14; k++) {
            s.then("law " + keys[k % 3] + k, k).then("count 6", k + 1).then("textTold " + (k + 1) + " 0", BAD);
        }
        s.then("law fee 99", FULL).then("law dues 98+1", FULL).then("count 6", 14).then("textTold 14 0", BAD);
        s.then("law fee 9 9", -106).then("law ", -100);
        for (int k = 0; k < 14; k++) {
            s.then("textTold " + k + " 0", k % 3).then("textTold " + k + " 1", 1);
        }
        s.then("why 0", 12).then("why 1", 13).then("why 2", 11).then("fee", 13).then("fine 0", 11).then("told 0 6", 12);
    }

    /** FULL is as long as there are 14: behind back there may be room again. */
    private static void roomForTextsAgain() {
        Script s = new Script();
        for (int k = 0; k < 13; k++) {
            s.go("law fee " + k);
        }
        s.then("keep", 0).then("law fee 50", 13).then("law fee 60", FULL).then("fee", 50).then("back", 0).then("count 6", 13);
        s.then("fee", 12).then("why 1", 12).then("textTold 13 0", BAD).then("law fine 70+p-p", 13);
        s.then("textTold 13 0", 2).then("textTold 13 1", 3).then("law fee 60", FULL).then("fee", 12).then("why 2", 13);
    }

    /** "How many NUMBERS and NAMES it has": both together, one at least. */
    private static void leaves() {
        new Script().then("law dues o", 0).then("textTold 0 1", 1).then("law dues 12", 1).then("textTold 1 1", 1)
            .then("law dues !(((o)))", 2).then("textTold 2 1", 1).then("law dues o+o*o-f/m<12&3|!4", 3).then("textTold 3 1", 8)
            .then("law dues 1" + "+2".repeat(45), 4).then("textTold 4 1", 46)
            .then("law dues o" + "+m".repeat(45), 5).then("textTold 5 1", 46);
    }

    /** "Of a KEY that TEXT counts that was told last"; "NONE". */
    private static void thatWasToldLast() {
        Script.of("person 0 1 0").then("law dues 5", 0).then("why 0", 0).then("told 0 6", 5);
        Script.of("person 0 1 0").then("law fee 5", 0).then("why 1", 0).then("fee", 5);
        Script.of("person 0 1 0").then("law fine 5", 0).then("why 2", 0).then("fine 0", 5);
        Script s = Script.of("person 0 1 0");
        s.then("why 0", NONE).then("why 1", NONE).then("why 2", NONE).then("law fee 4", 0).then("why 0", NONE).then("why 1", 0)
            .then("why 2", NONE).then("law dues 5", 1).then("why 0", 1).then("law fee 6", 2).then("why 1", 2).then("fee", 6)
            .then("law fine 7", 3).then("why 2", 3).then("law dues 3", 4).then("why 0", 4).then("told 0 6", 3)
            .then("law fee 8 8", -106).then("why 1", 2).then("law feee 1", -100).then("why 1", 2).then("law fee 2", 5)
            .then("fee", 2).then("why 0", 4).then("why 1", 5).then("why 2", 3).then("fine 0", 7);
    }

    /** NAMES at the ends of what they tell: OFF 0 and 9, FRIENDS 0 and 9, MIND 0 and 1. */
    private static void theEndsOfNames() {
        Script s = Script.of("person 0 1 0", "law dues o*100+f*10+m", "law fine o*100+(p<0)*10+(p>0)");
        s.then("told 0 6", 1);
        for (int k = 1; k < 10; k++) {
            s.go("person 0 1 0", "friends 0 " + k + " 1").then("told 0 6", Math.min(999, 110 * k + 1));
        }
        s.then("told 9 6", 111).then("fine 0", 900).go("set 0 3 1").then("fine 0", 901).go("set 0 3 -1").then("fine 0", 910);
        s.go("set 0 1 0").then("told 9 6", 111).go("set 9 1 0").then("told 9 6", 110).then("told 0 6", 700 + 90);
    }
}

/** Promises 24 to 28: texts. */
public final class TextsTest {
    private static final int BAD = Due.BAD, FULL = Due.FULL, NONE = Due.NONE;

    public static void main(String[] args) {
        theTape();
        theBytes();
        trimmedAway();
        sound();
        faults();
        nested();
        values();
        names();
        duesByText();
        duesAheadOfTheChanges();
        numbersOfTexts();
        toldOfTexts();
        why();
        Due.end();
    }

    private static void due(String call, long got, long want) {
        Due.due(call, got, want);
    }

    private static void theTape() {
        HalfFriends x = new HalfFriends();
        for (int k = 1; k <= 8; k++) {
            due("feed " + k, x.feed(0x20202020, 0x20202020, 0x20202020), 12 * k);
        }
        due("above 96", x.feed(1, 2, 3), FULL);
        due("bytes", x.count(8), 96);
        due("trim 97", x.trim(97), BAD);
        due("trim -1", x.trim(-1), BAD);
        for (int wild : Due.WILD) {
            due("trim " + wild, x.trim(wild), BAD);
        }
        due("bytes", x.count(8), 96);
        due("trim 96", x.trim(96), 96);
        due("trim 85", x.trim(85), 85);
        due("above 96", x.feed(1, 2, 3), FULL);
        due("trim 84", x.trim(84), 84);
        due("up to 96", x.feed(0x20202020, 0x20202020, 0x20202020), 96);
        due("only blanks", x.text(), -196);
        due("the tape is used up", x.count(8), 0);
        due("trim 0", x.trim(0), 0);
        due("trim 1", x.trim(1), BAD);
        due("an empty tape", x.text(), -100);
    }

    /** "fine p" and six blanks, then "*100 - 50*2 " */
    private static void theBytes() {
        HalfFriends x = new HalfFriends();
        x.person(0, 1, 0);
        x.set(0, 3, 7);
        due("feed", x.feed(0x66696e65, 0x20702020, 0x20202020), 12);
        due("feed", x.feed(0x2a313030, 0x202d2035, 0x302a3220), 24);
        due("the highest byte first", x.text(), 0);
        due("fine", x.fine(0), 600);
        due("feed", x.feed(0x66696e65, 0x20702020, 0x20202020), 12);
        due("feed", x.feed(0x2a313030, 0x202d2035, 0x302a3220), 24);
        due("cut behind *10", x.trim(15), 15);
        due("text", x.text(), 1);
        due("fine", x.fine(0), 70);
        due("feed", x.feed(0x66696e65, 0x20702b80, 0xffffffff), 12);
        due("a byte above 127", x.text(), -107);
        due("a byte 255", Due.text(x, "fine p\u00ff"), -106);
        due("a byte 0", Due.text(x, "fine p+\0"), -107);
        due("a byte 225, a letter of another row", Due.text(x, "fine \u00e1"), -105);
    }

    /** What was fed and trimmed away is no part of THE TAPE. */
    private static void trimmedAway() {
        Object[][] rows = {{"dues 1+1", 7}, {"dues (1)", 7}, {"dues 1+1", 5}, {"dues 1", 4}, {"dues !1", 6}, {"dues 1", 0}};
        for (Object[] row : rows) {
            HalfFriends x = new HalfFriends();
            Due.tape(x, (String) row[0]);
            x.trim((Integer) row[1]);
            due(row[0] + " trimmed to " + row[1], x.text(), -100 - (Integer) row[1]);
        }
        HalfFriends x = new HalfFriends();
        x.person(0, 1, 0);
        Due.tape(x, "fine 1234");
        x.trim(7);
        due("trimmed to 12", x.text(), 0);
        due("fine", x.fine(0), 12);
    }

    private static void sound() {
        String[] texts = {"dues o", "dues(o)", "dues!o", "dues  o ", "  dues 1", "dues 0000", "dues 9999", "dues (1<2)=3",
            "dues 1<2&3>4|5=6", "dues ! ! 1", "dues !(1|2)", "dues (1)+(1)+(1)+(1)+(1)+(1)+(1)+(1)+(1)+(1)",
            "dues !1+!1+!1+!1+!1+!1+!1+!1+!1+!1", "fee c+y", "fine(p)*o/2", "fee(3)", "fee 1-2-3", "dues m+f",
            "fine !p<o", "dues 1 + 2 * ( 3 )", "dues 1+o"};
        for (String text : texts) {
            HalfFriends x = new HalfFriends();
            due(text, Due.text(x, text), 0);
            due("the tape is used up", x.count(8), 0);
            due("one TEXT", x.count(6), 1);
        }
        StringBuilder s = new StringBuilder("dues 1");
        while (s.length() < 96) {
            s.append(s.length() % 2 == 0 ? '+' : '2');
        }
        HalfFriends x = new HalfFriends();
        due("a sum that comes too soon to its end", Due.text(x, s.substring(0, 95)), -195);
        due("96 bytes that come too soon to their end", Due.text(x, s.substring(0, 95).replace("dues 1", "dues 12") + ""), -196);
        due("96 bytes of which the last is (", Due.text(x, s.substring(0, 95) + "("), -196);
        due("96 bytes of which the last is !", Due.text(x, s.substring(0, 95) + "!"), -196);
        due("96 bytes and an open (", Due.text(x, s.substring(0, 94).replace("dues 1", "dues (1") + "2"), -196);
        due("96 bytes", Due.text(x, s.toString()), 0);
        due("its NUMBERS", x.textTold(0, 1), 46);
        x.person(0, 1, 1);
        due("its sum", x.told(0, 6), 91);
    }

    private static void faults() {
        Object[][] rows = {{"", 0}, {"   ", 3}, {"dues", 4}, {"dues ", 5}, {"due", 0}, {"duess 1", 0}, {"  dues1", 6},
            {"dues1", 4}, {"dueso", 0}, {"fee5", 3}, {"fine77777", 4}, {"dues 12345", 5}, {"dues 00001", 5},
            {"dues oo", 5}, {"dues o o", 7}, {"dues o1", 6}, {"dues 1o", 6}, {"dues 1 2", 7}, {"dues c", 5},
            {"dues y", 5}, {"dues p", 5}, {"fee o", 4}, {"fee m", 4}, {"fee p", 4}, {"fine c", 5}, {"fine y", 5},
            {"fine f", 5}, {"fine m", 5}, {"dues +1", 5}, {"dues -1", 5}, {"dues 1+", 7}, {"dues 1+ ", 8},
            {"dues 1++1", 7}, {"dues (1", 7}, {"dues (1 ", 8}, {"dues (1))", 8}, {"dues ()", 6}, {"dues 1<2<3", 8},
            {"dues 1<2=3", 8}, {"dues 1=2>3", 8}, {"dues (1<2<3)", 9}, {"dues (1<2)<3>4", 12}, {"Dues 1", 0},
            {"dues\t1", 4}, {"dues 1\n", 6}, {"dues 1!", 6}, {"dues 1(2)", 6}, {"dues (1)2", 8}, {"dues (1)(2)", 8},
            {"dues !", 6}, {"dues !&1", 6}, {"dues 1!=2", 6}, {"dues 1<=2", 7}, {"dues 1&&2", 7}, {"dues 1||2", 7},
            {"dues 1==2", 7}, {"dues fee", 5}, {"dues 1 dues 1", 7}, {"1", 0}, {"o", 0}, {"(dues 1)", 0}, {"fee", 3},
            {"fine", 4}, {"fin e", 0}, {"dues 1,2", 6}, {"dues 1%2", 6}, {"dues 12 345", 8}, {"dues 1+12345+", 7},
            {"dues (o+1", 9}, {"dues )", 5}, {"dues 1)", 6}, {"dues {1}", 5}, {"dues `", 5}, {"dues 1/", 7},
            {"dues 1:", 6}, {"dues O", 5}, {"dues oa", 5}, {"dues oz", 5}, {"dues ao", 5}, {"dues zo", 5},
            {"xues 1", 0}, {"xee 1", 0}, {"xine 1", 0}, {"fene 1", 0}, {"duesa", 0}, {"duesz 1", 0}, {"dues 1`", 6}};
        for (Object[] row : rows) {
            HalfFriends x = new HalfFriends();
            due("a FAULT in <" + row[0] + ">", Due.text(x, (String) row[0]), -100 - (Integer) row[1]);
            due("the tape is used up", x.count(8), 0);
            due("no TEXT", x.count(6), 0);
        }
    }

    private static void nested() {
        HalfFriends x = new HalfFriends();
        x.person(0, 1, 1);
        due("eight (", Due.text(x, "dues ((((((((7))))))))"), 0);
        due("dues", x.told(0, 6), 7);
        due("nine (", Due.text(x, "dues (((((((((7)))))))))"), -113);
        due("nine ( and no end", Due.text(x, "dues ((((((((("), -113);
        due("nine (, one of them closed", Due.text(x, "dues (((((((((7))+((2))))))))"), -113);
        due("eight (, closed, and eight", Due.text(x, "dues ((((((((7))))))))+((((((((7))))))))"), 1);
        due("dues", x.told(0, 6), 14);
        due("eight ( one behind the other within seven", Due.text(x, "dues (((((((7+(1)+(1)+(1)+(1))))))))"), 2);
        due("dues", x.told(0, 6), 11);
        due("the ninth ( at the second place", Due.text(x, "dues (((((((7+(1)+((1))))))))))"), -100 - 19);
        due("eight !", Due.text(x, "dues !!!!!!!!7"), 3);
        due("dues", x.told(0, 6), 1);
        due("nine !", Due.text(x, "dues !!!!!!!!!7"), -113);
        due("eight ! and eight", Due.text(x, "dues !!!!!!!7+ !!!!!!!!7"), 4);
        due("dues", x.told(0, 6), 1);
        due("each by itself", Due.text(x, "dues !(!(!(!(!(!(!(!(7))))))))"), 5);
        due("dues", x.told(0, 6), 1);
        due("the ninth ! within", Due.text(x, "dues !(!(!(!(!(!(!(!(!7))))))))"), -121);
        due("the ninth ( within", Due.text(x, "dues !(!(!(!(!(!(!(!((7)))))))))"), -121);
        due("a ! that is closed counts no more", Due.text(x, "dues !(!(!(!(!(!(!(!7+!7+!7)))))))"), 6);
        due("a ninth ! behind a closed one", Due.text(x, "dues !(!(!(!(!(!(!(!7+!!7)))))))"), -100 - 23);
        due("nine ! of which eight are right ahead", Due.text(x, "dues !!!!!!!!(!7)"), -114);
    }

    private static int fine(String e, int off, int purse) {
        HalfFriends x = new HalfFriends();
        x.person(0, 1, 0);
        for (int k = 1; k <= off; k++) {
            x.person(0, 1, 0);
            x.friends(0, k, 1);
        }
        x.set(0, 3, purse);
        due("a TEXT: " + e, Due.text(x, "fine " + e), 0);
        return x.fine(0);
    }

    private static void values() {
        Object[][] rows = {{"1+2*3", 7}, {"(1+2)*3", 9}, {"7/2", 3}, {"1-2-3", -4}, {"8/4/2", 1}, {"2*3/4", 1},
            {"3/4*2", 0}, {"10-2*3-1", 3}, {"5/0", 0}, {"0/0", 0}, {"5/(o-3)+1", 1}, {"1<2", 1}, {"2<1", 0}, {"2<2", 0},
            {"2=2", 1}, {"2=3", 0}, {"3>2", 1}, {"2>3", 0}, {"2>2", 0}, {"0|0", 0}, {"0|7", 1}, {"7|0", 1}, {"7|7", 1},
            {"2&4", 1}, {"2&0", 0}, {"0&2", 0}, {"0&0", 0}, {"!0", 1}, {"!5", 0}, {"!!5", 1}, {"!(0-1)", 0},
            {"!0+1", 2}, {"1+!0*3", 4}, {"1|0&0", 1}, {"(1|0)&0", 0}, {"0&0|1", 1}, {"1&2=3", 0}, {"1=1&2=2", 1},
            {"1<2&3>4|5=5", 1}, {"1+1<3*1", 1}, {"2*(1<2)", 2}, {"!1<1", 1}, {"!o=0", 1}, {"o", 3}, {"p", -7},
            {"p/2", -3}, {"p*o", -21}, {"p<o", 1}, {"o-p*2", 17}, {"p|0", 1}, {"p&p", 1}, {"0012", 12},
            {"9999*9999*9999", (int) (9999L * 9999 * 9999)}, {"8192*8192*32", Integer.MIN_VALUE},
            {"8192*8192*32/(0-1)", Integer.MIN_VALUE}, {"8192*8192*32-1", Integer.MAX_VALUE},
            {"8192*8192*32<1", 1}, {"8192*8192*32-1>0", 1}, {"8192*8192*64", 0}, {"1-2*3/4+5", 5}, {"0=1|1=1", 1},
            {"(0-7)/2*2", -6}, {"9999/(0-2)", -4999}};
        for (Object[] row : rows) {
            due("fine " + row[0], fine((String) row[0], 3, -7), (Integer) row[1]);
        }
    }

    private static void names() {
        HalfFriends x = new HalfFriends();
        for (int k = 0; k < 4; k++) {
            x.person(0, k & 1, 0);
        }
        x.friends(0, 1, 1);
        x.friends(0, 2, 1);
        x.friends(0, 3, 1);
        due("text", Due.text(x, "dues o*100+f*10+m"), 0);
        int[] want = {130, 111, 110, 111};
        for (int k = 0; k < 4; k++) {
            due("dues of " + k, x.told(k, 6), want[k]);
        }
        due("dues is not fine", x.fine(0), 1);
        due("nor fee", x.fee(), 0);
        x.years(1);
        due("CHEST", x.town(1), 462);
        due("fee", x.fee(), 462);
        due("text", Due.text(x, "fee c-y"), 1);
        due("fee", x.fee(), 461);
    }

    private static void duesByText() {
        Object[][] rows = {{"0-5", 0, 0, 0, 2, 0, 0}, {"9999", 999, 499, 995, 501, 995, 1998}, {"3", 3, 1, 0, 3, 0, 6},
            {"999", 999, 499, 995, 501, 995, 1998}, {"998", 998, 499, 994, 501, 994, 1996}, {"0", 0, 0, 0, 2, 0, 0},
            {"8192*8192*32", 0, 0, 0, 2, 0, 0}, {"5", 5, 2, 1, 4, 1, 10}};
        for (Object[] row : rows) {
            HalfFriends x = new HalfFriends();
            due("text", Due.text(x, "dues " + row[0]), 0);
            for (int kind = 0; kind < 6; kind++) {
                x.person(kind, 0, 50);
                due("DUES of KIND " + kind + " by " + row[0], x.told(kind, 6), (Integer) row[kind + 1]);
            }
            x.years(1);
            due("one in order pays nothing", x.town(1), 0);
        }
    }

    private static void duesAheadOfTheChanges() {
        HalfFriends x = Due.ring(0, 1, 1, 1, 1);
        x.rule(1, 1);
        due("text", Due.text(x, "dues m*100+o"), 0);
        due("0 changes", x.years(1), 1);
        due("all pay 102, and 0 what it asks", x.town(1), 418);
        due("purse of 0", x.told(0, 3), -112);
        due("0 and 2 pay now", x.years(1), 0);
        due("2 and 102", x.town(1), 418 + 104);
    }

    private static void numbersOfTexts() {
        HalfFriends x = new HalfFriends();
        for (int k = 0; k < 14; k++) {
            due("text " + k, Due.text(x, "fee " + (k * 5)), k);
            due("the last one counts", x.fee(), k * 5);
        }
        due("fifteenth", Due.text(x, "fee 1"), FULL);
        due("the tape is used up", x.count(8), 0);
        due("14 TEXTS", x.count(6), 14);
        due("a FAULT stands ahead of FULL", Due.text(x, "fee 1 1"), -106);
        due("the tape is used up", x.count(8), 0);
        due("the last one counts", x.fee(), 65);
    }

    private static void toldOfTexts() {
        HalfFriends x = new HalfFriends();
        due("no TEXT", x.textTold(0, 0), BAD);
        Due.text(x, "fine 1");
        Due.text(x, "dues o+f*2-m+(!o)");
        Due.text(x, "fee c");
        int[][] want = {{2, 1}, {0, 5}, {1, 1}};
        for (int k = 0; k < 3; k++) {
            due("KEY of " + k, x.textTold(k, 0), want[k][0]);
            due("NUMBERS and NAMES of " + k, x.textTold(k, 1), want[k][1]);
            due("what 2", x.textTold(k, 2), BAD);
            for (int wild : Due.WILD) {
                due("what " + wild, x.textTold(k, wild), BAD);
                due("text " + wild, x.textTold(wild, 0), BAD);
            }
        }
        due("TEXT 3", x.textTold(3, 0), BAD);
    }

    private static void why() {
        HalfFriends x = new HalfFriends();
        String[] keys = {"dues", "fee", "fine"};
        for (int key = 0; key < 3; key++) {
            due("none yet", x.why(key), NONE);
            due("text", Due.text(x, keys[key] + " 1"), key);
            due("the one", x.why(key), key);
        }
        Due.text(x, "fee 2");
        due("dues", x.why(0), 0);
        due("fee", x.why(1), 3);
        due("fine", x.why(2), 2);
        Due.text(x, "fee 2 +");
        due("one with a FAULT is none", x.why(1), 3);
        due("why 3", x.why(3), BAD);
        for (int wild : Due.WILD) {
            due("why " + wild, x.why(wild), BAD);
        }
    }
}

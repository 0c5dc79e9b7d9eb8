/**
 * The boundary cases that the terms of PEOPLE and promises 1 to 10 name, sentence by sentence: the last value that is
 * taken, rows that are full, numbers that are held or wrap around. What is refused stands in RefusedTest.
 */
public final class BoundsOfPeopleTest {
    private static final int FULL = Due.FULL, KIND = Due.KIND;

    public static void main(String[] args) {
        atFirst();
        tenAtMost();
        roomAgain();
        valuesOfAPerson();
        setsReachToNumberNine();
        offAndSlack();
        duesByOff();
        duesAreHeld();
        asksAndWorth();
        asOfTheKindsAbove();
        turnsToTheSame();
        setToTheEnds();
        friendsOfEachOther();
        rulesToTheEnds();
        dealToTheEnds();
        theEndsOfADraw();
        zWrapsAround();
        fiveHundredAndTwelveCalls();
        objectsByThemselves();
        Due.end();
    }

    /** "PURSE (0 at first)", "SLACK (0 at first), MODE (0), WHIM (0)", "CHEST, CHANGES, THE YEAR 0", "z 1 at first", "no PEOPLE". */
    private static void atFirst() {
        Script s = new Script();
        int[] counts = {0, 0, 0, 0, 0, 0, 0, 0, 0, 1};
        for (int k = 0; k < 10; k++) {
            s.then("count " + k, counts[k]);
        }
        for (int k = 0; k < 6; k++) {
            s.then("town " + k, 0);
        }
        s.then("fee", 0).then("person 0 0 0", 0).then("told 0 3", 0).then("told 0 4", 0);
        for (int k = 0; k < 4; k++) {
            s.then("reads " + k, Due.NOTHING);
        }
        for (int k = 0; k < 5; k++) {
            s.then("ask " + k + " 0", Due.NOTHING).then("item " + k + " 0", Due.NOTHING).then("rest " + k + " 1", Due.NOTHING);
        }
        s.then("text", -100).then("check 1", Due.NO).then("back", Due.NO);
    }

    /** "PEOPLE, 10 at most, numbered from 0". */
    private static void tenAtMost() {
        Script s = new Script();
        for (int k = 0; k < 10; k++) {
            s.then("person " + k % 6 + " " + k % 2 + " " + 11 * k, k).then("count 0", k + 1);
        }
        s.then("person 0 0 0", FULL).then("count 0", 10).then("person 5 1 99", FULL).then("count 0", 10);
        for (int k = 0; k < 10; k++) {
            s.then("told " + k + " 0", k % 6).then("told " + k + " 1", k % 2).then("told " + k + " 2", 11 * k);
        }
        s.then("told 10 0", Due.BAD).then("count 5", 5).then("town 3", 682);
    }

    /** FULL is as long as there are ten: behind back there may be room again. */
    private static void roomAgain() {
        Script s = Script.of("seed 4", "deal 9", "keep", "set 8 3 70", "friends 8 0 1");
        s.then("person 3 1 5", 9).then("friends 9 0 1", 0).then("set 9 3 -40", 0).then("person 0 0 5", FULL);
        s.then("back", 9).then("told 9 0", Due.BAD).then("told 8 3", 0).then("told 8 4", 0);
        s.then("person 1 0 6", 9).then("told 9 0", 1).then("told 9 1", 0).then("told 9 2", 6).then("told 9 3", 0)
            .then("told 9 4", 0).then("person 0 0 5", FULL);
    }

    /** "KINDS 0 .. 5", "MIND 1 or 0", "PRICE 0 .. 99". */
    private static void valuesOfAPerson() {
        for (int kind = 0; kind < 6; kind++) {
            for (int mind = 0; mind < 2; mind++) {
                for (int price = 0; price < 100; price += 33) {
                    new Script().then("person " + kind + " " + mind + " " + price, 0).then("told 0 0", kind)
                        .then("told 0 1", mind).then("told 0 2", price).then("told 0 3", 0).then("told 0 4", 0)
                        .then("told 0 5", 0).then("count 5", mind);
                }
            }
        }
    }

    private static Script ten(int kind, int mind, int price) {
        Script s = new Script();
        for (int k = 0; k < 10; k++) {
            s.go("person " + kind + " " + mind + " " + price);
        }
        return s;
    }

    /** Number 0 with nine friends. */
    private static Script star(int kind, int mind, int price) {
        Script s = Script.of("person " + kind + " " + mind + " " + price);
        for (int k = 1; k < 10; k++) {
            s.go("person 0 " + mind + " 0", "friends 0 " + k + " 1");
        }
        return s;
    }

    /** "Sets of PEOPLE, and minds of all, are told as bits (bit k for number k)". */
    private static void setsReachToNumberNine() {
        ten(0, 1, 7).then("town 3", 1023).then("count 5", 10).then("friends 9 0 1", 0).then("told 0 4", 512).then("told 9 4", 1)
            .then("town 4", 513).then("town 5", 513).then("set 9 1 0", 1).then("town 3", 511).then("set 0 1 0", 1)
            .then("town 3", 510).then("town 0", 2);
        star(0, 0, 0).then("told 0 4", 1022).then("told 9 4", 1).then("town 5", 1023).then("town 3", 0);
    }

    /** "OFF: by how much how many are for and how many are against differ"; "IN ORDER: OFF is SLACK at most". */
    private static void offAndSlack() {
        Script s = star(0, 1, 0).then("told 0 5", 9).then("told 9 5", 1).then("town 0", 18);
        for (int slack = 0; slack <= 9; slack++) {
            s.go("rule 0 " + slack).then("town 4", slack == 0 ? 1023 : slack < 9 ? 1 : 0);
        }
        for (int k = 1; k < 10; k++) {
            s.go("set " + k + " 1 0").then("told 0 5", Math.abs(9 - 2 * k));
        }
        s.then("town 4", 0).go("rule 0 8").then("town 4", 1).go("friends 0 9 0").then("told 0 5", 8).then("town 4", 0);
        new Script().go("person 0 1 0").then("told 0 5", 0).then("town 4", 0);
        Script all = ten(0, 1, 0);
        for (int a = 0; a < 10; a++) {
            for (int b = a + 1; b < 10; b++) {
                all.go("friends " + a + " " + b + " 1");
            }
        }
        all.then("town 0", 90).then("told 4 4", 1023 - 16).go("rule 0 8").then("town 4", 1023).go("rule 0 9").then("town 4", 0);
    }

    /** "Without a TEXT: 3 times OFF"; "half (cut)"; "less 4 (0 at least)"; "and 2"; "twice". */
    private static void duesByOff() {
        int[] ofNine = {27, 13, 23, 15, 23, 54};
        int[] ofOne = {3, 1, 0, 3, 0, 6};
        int[] ofTwo = {6, 3, 2, 5, 2, 12};
        int[] ofNone = {0, 0, 0, 2, 0, 0};
        for (int kind = 0; kind < 6; kind++) {
            star(kind, 1, 0).then("told 0 6", ofNine[kind]);
            Script.of("person " + kind + " 0 0").then("told 0 6", ofNone[kind]).go("person 0 1 0", "friends 0 1 1")
                .then("told 0 6", ofOne[kind]).go("person 0 1 0", "friends 0 2 1").then("told 0 6", ofTwo[kind]);
        }
    }

    /** "DUES: PERSON: what dues gives, held within 0 .. 999": held first, then by KIND. */
    private static void duesAreHeld() {
        Object[][] rows = {{"0", 0, 0, 0, 2, 0, 0}, {"1", 1, 0, 0, 2, 0, 2}, {"2", 2, 1, 0, 3, 0, 4}, {"3", 3, 1, 0, 3, 0, 6},
            {"4", 4, 2, 0, 4, 0, 8}, {"5", 5, 2, 1, 4, 1, 10}, {"998", 998, 499, 994, 501, 994, 1996},
            {"999", 999, 499, 995, 501, 995, 1998}, {"1000", 999, 499, 995, 501, 995, 1998},
            {"9999*9", 999, 499, 995, 501, 995, 1998}, {"8192*8192*32-1", 999, 499, 995, 501, 995, 1998},
            {"8192*8192*32", 0, 0, 0, 2, 0, 0}, {"0-1", 0, 0, 0, 2, 0, 0}, {"0-9999", 0, 0, 0, 2, 0, 0}};
        for (Object[] row : rows) {
            Script s = Script.of("law dues " + row[0]);
            for (int kind = 0; kind < 6; kind++) {
                s.go("person " + kind + " 0 5").then("told " + kind + " 6", (Integer) row[kind + 1]);
            }
        }
    }

    /** "ASKS", "WORTH" at the ends of PRICE: "half (cut)", 99 less 99, below 0. */
    private static void asksAndWorth() {
        int[] prices = {0, 1, 98, 99};
        int[][] asks = {{0, 5, 0, 10, 0, 0}, {1, 6, 0, 12, 0, 1}, {98, 103, 49, 206, 0, 98}, {99, 104, 49, 208, 0, 99}};
        int[][] worth = {{0, 9, 99, 18, 93, 2}, {1, 10, 98, 20, 92, 2}, {98, 107, 1, 214, -5, 2}, {99, 108, 0, 216, -6, 2}};
        for (int k = 0; k < prices.length; k++) {
            for (int kind = 0; kind < 6; kind++) {
                Script.of("person " + kind + " 1 " + prices[k], "lay 4 1 0").then("told 0 7", asks[k][kind])
                    .then("told 0 8", worth[k][kind]).then("ask 4 " + kind, worth[k][kind]).then("ask 4 0", worth[k][kind]);
            }
        }
    }

    /** "It is not of that KIND, nor of one under it": ODD under EVEN, FREE under LEANING, all under PERSON. */
    private static void asOfTheKindsAbove() {
        String[] fits = {"0", "01", "02", "013", "024", "05"};
        for (int kind = 0; kind < 6; kind++) {
            Script s = Script.of("person 0 0 3", "person " + kind + " 0 " + (90 + kind), "lay 0 1 1");
            for (int as = 0; as < 6; as++) {
                boolean is = fits[kind].contains("" + as);
                s.then("as 1 " + as, is ? 90 + kind : KIND).then("ask 0 " + as, is ? s.call("told 1 8") : KIND);
            }
        }
        Script.of("person 0 0 0", "person 0 0 99").then("as 0 0", 0).then("as 1 0", 99);
        ten(3, 0, 42).then("as 9 1", 42).then("as 9 3", 42).then("as 9 2", KIND);
    }

    /** "One is of another KIND from now on: what it was": the first and the last KIND, and the same one. */
    private static void turnsToTheSame() {
        ten(0, 1, 50).then("turns 9 5", 0).then("turns 9 5", 5).then("told 9 0", 5).then("turns 9 0", 5).then("turns 9 0", 0)
            .then("turns 0 5", 0).then("told 0 8", 2).then("told 1 0", 0).then("told 9 0", 0).then("count 5", 10);
        Script.of("person 2 1 98", "person 0 0 0", "friends 0 1 1", "set 0 3 -77").then("turns 0 3", 2).then("told 0 1", 1)
            .then("told 0 2", 98).then("told 0 3", -77).then("told 0 4", 2).then("told 0 7", 206).then("told 1 4", 1);
    }

    /** "MIND 1 or 0, PRICE 0 .. 99, PURSE -9999 .. 9999". */
    private static void setToTheEnds() {
        for (String one : new String[] {"0", "9"}) {
            Script s = ten(5, 1, 20);
            s.then("set " + one + " 1 0", 1).then("set " + one + " 1 0", 0).then("set " + one + " 1 1", 0);
            s.then("set " + one + " 2 0", 20).then("told " + one + " 2", 0).then("set " + one + " 2 99", 0);
            s.then("set " + one + " 3 -9999", 0).then("told " + one + " 3", -9999).then("set " + one + " 3 9999", -9999);
            s.then("told " + one + " 2", 99).then("told " + one + " 3", 9999).then("told " + one + " 1", 1);
            s.then("town 3", 1023).then("told 5 2", 20).then("told 5 3", 0).then("town 2", 0);
        }
    }

    /** "FRIENDS (other PEOPLE; each is so of the other one, too)"; "whether they were (1, 0)". */
    private static void friendsOfEachOther() {
        ten(0, 0, 0).then("friends 9 0 0", 0).then("friends 9 0 1", 0).then("told 9 4", 1).then("told 0 4", 512)
            .then("friends 0 9 1", 1).then("told 9 4", 1).then("told 0 4", 512).then("friends 8 9 1", 0).then("told 9 4", 257)
            .then("friends 0 9 0", 1).then("told 9 4", 256).then("told 0 4", 0).then("friends 9 0 0", 0).then("told 8 4", 512);
    }

    /** "SLACK 0 .. 9 (0 at first), MODE 0 .. 2 (0), WHIM 0 .. 100 (0)". */
    private static void rulesToTheEnds() {
        Script s = new Script();
        int[] most = {9, 2, 100};
        for (int what = 0; what < 3; what++) {
            s.then("rule " + what + " 0", 0).then("rule " + what + " " + most[what], 0).then("rule " + what + " 1", most[what]);
            s.then("rule " + what + " " + most[what], 1).then("rule " + what + " " + (most[what] + 1), Due.BAD);
            s.then("count " + (2 + what), most[what]);
        }
        s.then("rule 0 0", 9).then("rule 1 0", 2).then("rule 2 0", 100).then("count 2", 0).then("count 3", 0).then("count 4", 0);
    }

    private static int zBehind(int z, int draws) {
        int v = z;
        for (int k = 0; k < draws; k++) {
            v = v * 1103515245 + 12345;
        }
        return v;
    }

    /** "N (1 .. 10) of them, as many as there is room for (no draws for others): how many came". */
    private static void dealToTheEnds() {
        new Script().then("deal 1", 1).then("count 0", 1).then("count 9", zBehind(1, 3));
        new Script().then("deal 10", 10).then("count 9", zBehind(1, 30)).then("deal 1", 0).then("deal 10", 0)
            .then("count 0", 10).then("count 9", zBehind(1, 30));
        Script.of("deal 9").then("deal 1", 1).then("deal 1", 0).then("count 9", zBehind(1, 30));
        Script.of("deal 9").then("deal 2", 1).then("count 0", 10).then("count 9", zBehind(1, 30));
        Script.of("deal 1").then("deal 9", 9).then("count 9", zBehind(1, 30));
        Script.of("deal 1").then("deal 10", 9).then("count 9", zBehind(1, 30));
        Script.of("deal 4").then("deal 0", Due.BAD).then("deal 11", Due.BAD).then("count 0", 4).then("count 9", zBehind(1, 12));
        ten(1, 1, 1).then("deal 1", 0).then("count 9", 1).then("told 9 0", 1);
    }

    /** "KIND the rest of a draw by 6, MIND that of one more by 2, PRICE that of one more by 30", the greatest and the least. */
    private static void theEndsOfADraw() {
        Script.of("seed 2098").then("deal 1", 1).then("told 0 0", 5).then("told 0 1", 1).then("told 0 2", 29)
            .then("count 9", -1384600775);
        Script.of("seed 29").then("deal 1", 1).then("told 0 0", 0).then("told 0 1", 0).then("told 0 2", 0)
            .then("count 9", 893552736);
    }

    /** "Z becomes z * 1103515245 + 12345 (an int); it gives z >>> 8". */
    private static void zWrapsAround() {
        String[] seeds = {"HIGH", "LOW", "0", "-1", "1"};
        int[] z = {1043980748, -2147471303, 12345, -1103502900, 1103527590};
        int[] gives = {4078049, 8388656, 48, 12466657, 4310654};
        for (int k = 0; k < seeds.length; k++) {
            Script.of("person 0 0 0").go("seed " + seeds[k]).then("years 1", 0).then("count 9", z[k]);
            Script.of("seed " + seeds[k], "deal 1").then("told 0 0", gives[k] % 6);
        }
        Script.of("person 0 0 0").then("seed HIGH", 1).then("seed LOW", Due.HIGH).then("seed 0", Due.LOW).then("seed -1", 0)
            .then("count 9", -1);
    }

    /** "An object is used for at most 512 calls after it has been made": the last one is answered as the first. */
    private static void fiveHundredAndTwelveCalls() {
        HalfFriends x = Due.ring(0, 1, 1, 1, 1);
        for (int call = 9; call < 512; call += 9) {
            Due.due("ways at call " + call, x.ways(), 4);
            Due.due("minds", x.minds(2), 3);
            Due.due("best", x.best(1, 1), 0);
            Due.due("settles", x.settles(), Due.NONE);
            Due.due("won", x.won(60, 1), 4);
            Due.due("keep", x.keep(), 4);
            Due.due("back", x.back(), 4);
            Due.due("sheet", x.sheet(call & 3, call & 1, 24), 24);
            Due.due("lied", x.lied(call & 3, 1), 4);
        }
    }

    /** Objects have nothing in common, TEXTS, SHEETS and THE IMAGE too. */
    private static void objectsByThemselves() {
        Script a = Script.of("person 0 1 3", "law fee 5", "law fine 6", "sheet 0 0 3", "mark 0 1 4", "lay 0 3 9", "tell 1",
            "keep", "tape fee 9", "seed 7");
        Script b = Script.of("person 1 0 4", "law fee 8", "sheet 0 0 3", "mark 0 2 1", "lay 0 2 0", "tape fee 77", "tell 2",
            "person 1 0 4", "keep");
        a.then("fee", 5).then("fine 0", 6).then("count 6", 2).then("lay 1 2 0", 0).then("item 1 1", 4).then("item 1 2", 0)
            .then("rest 0 10", 9).then("count 7", 1).then("count 8", 5).then("text", 2).then("fee", 9).then("back", 1)
            .then("fee", 5).then("count 9", 1);
        b.then("fee", 8).then("fine 0", 0).then("count 6", 1).then("item 0 2", 1).then("item 0 1", 0).then("count 7", 1)
            .then("count 8", 6).then("text", 1).then("fee", 77).then("back", 2).then("fee", 8);
    }
}

/**
 * The boundary cases that the terms of A YEAR and WAYS and promises 11 to 23 name, sentence by sentence. What is refused
 * stands in RefusedTest.
 */
public final class BoundsOfYearsTest {
    private static final int BAD = Due.BAD, NO = Due.NO, NONE = Due.NONE;

    public static void main(String[] args) {
        waysOfNobodyAndOfTen();
        fixedOnesStayAndMustBeInOrder();
        mindsOfSeveralTheLeast();
        cheapestOfThoseThatAskNothing();
        freedomAmongTheWays();
        togetherFromOneToTen();
        bestOfOneTwoAndTen();
        duesOfThoseOutOfOrder();
        theSlackOfAYear();
        thePurseIsHeld();
        lessAndNotAsMuch();
        theGreatestOffAndTheLeastNumber();
        byLot();
        belowWhim();
        whimOfAFixedOne();
        nobodyDraws();
        yearsFromOneToAHundred();
        theLastYear();
        thoughtBeyondTheLastYear();
        behindNoneAndAHundred();
        settlesAtTheEnds();
        wonAtTheEnds();
        wonOfSeveral();
        liedAtTheEnds();
        liedByAFixedOne();
        liedBeyond();
        feeAndFine();
        Due.end();
    }

    private static Script ten(int kind, int mind, int price) {
        Script s = new Script();
        for (int k = 0; k < 10; k++) {
            s.go("person " + kind + " " + mind + " " + price);
        }
        return s;
    }

    /** A ring of as many PEOPLE as there are minds, each of price 10. */
    private static Script ring(int kind, String minds) {
        Script s = new Script();
        for (int k = 0; k < minds.length(); k++) {
            s.go("person " + kind + " " + minds.charAt(k) + " 10");
        }
        for (int k = 0; k < minds.length(); k++) {
            s.go("friends " + k + " " + (k + 1) % minds.length() + " 1");
        }
        return s;
    }

    private static Script friendships(Script s, int[] circles) {
        for (int a = 0; a < circles.length; a++) {
            for (int b = a + 1; b < circles.length; b++) {
                if ((circles[a] >> b & 1) == 1) {
                    s.go("friends " + a + " " + b + " 1");
                }
            }
        }
        return s;
    }

    private static int next(int z) {
        return z * 1103515245 + 12345;
    }

    // ---- order

    /** "Of all minds that PEOPLE could have": of nobody there is one, of ten there are 1024. */
    private static void waysOfNobodyAndOfTen() {
        new Script().then("ways", 1).then("minds 0", 0).then("minds 1", 0).then("minds 2", 0).then("minds 3", 0).then("freedom", 0);
        Script.of("person 0 1 5").then("ways", 2).then("minds 0", 1).then("minds 1", 1).then("minds 2", 1).then("minds 3", 0)
            .then("freedom", 1);
        ten(0, 1, 5).then("ways", 1024).then("minds 0", 1023).then("minds 1", 1023).then("minds 2", 1023).then("minds 3", 0)
            .then("freedom", 1023);
        ten(0, 0, 5).then("ways", 1024).then("minds 0", 0).then("minds 1", 0).then("minds 2", 1023).then("minds 3", 0);
        ring(0, "1111111111").then("ways", 0).go("rule 0 1").then("ways", 0).go("rule 0 2").then("ways", 1024)
            .then("minds 0", 1023).then("freedom", 1023);
    }

    /** "Those of FIXED ones as they are"; "with which all are IN ORDER": FIXED ones, too. */
    private static void fixedOnesStayAndMustBeInOrder() {
        ten(5, 1, 5).then("ways", 1).then("minds 3", 1023).then("minds 2", 1023).then("freedom", 0).then("together", NONE)
            .then("turns 9 0", 5).then("ways", 2).then("freedom", 512).then("minds 3", 511).then("together", 1);
        ten(5, 0, 5).then("ways", 1).then("minds 2", 0).then("turns 0 4", 5).then("ways", 2).then("minds 2", 1);
        Script.of("person 5 1 0", "person 5 1 0").then("ways", 1).go("friends 0 1 1").then("ways", 0).then("minds 0", NONE)
            .then("minds 3", NONE).then("freedom", 0).then("together", NO).go("rule 0 1").then("ways", 1).then("minds 0", 3);
        Script s = Script.of("person 5 1 0", "person 0 1 0", "person 0 1 0", "friends 0 1 1", "friends 0 2 1", "rule 0 1");
        s.then("ways", 2).then("minds 0", 3).then("minds 2", 3).then("freedom", 6).go("turns 0 0").then("ways", 4);
    }

    /** "Of several the least number"; "fewest", "most". */
    private static void mindsOfSeveralTheLeast() {
        ring(0, "1111").then("minds 0", 3).then("minds 1", 3).then("minds 2", 3).then("minds 3", 3);
        ring(0, "0000").then("minds 0", 3).then("minds 1", 3);
        ring(0, "0100").then("minds 0", 3).then("minds 1", 3).go("set 0 2 11").then("minds 0", 3).then("minds 1", 6);
        ring(0, "0001").then("minds 0", 9).go("set 0 2 99").then("minds 0", 9).then("minds 1", 12);
        ring(0, "0110").then("minds 0", 6).then("minds 1", 6).then("minds 2", 3).then("minds 3", 3);
    }

    /** "What those ASK whose MINDS are otherwise, together, is least": nothing, if they ask nothing. */
    private static void cheapestOfThoseThatAskNothing() {
        ten(4, 1, 99).then("minds 1", 0).then("minds 0", 1023);
        ten(0, 1, 0).then("minds 1", 0).go("set 9 2 1").then("minds 1", 512).go("set 0 2 1").then("minds 1", 513);
        ten(2, 1, 1).then("minds 1", 0).go("turns 3 1").then("minds 1", 8).go("set 4 2 2").then("minds 1", 24);
        ten(0, 0, 0).then("minds 1", 0);
    }

    /** "FREEDOM: those that have both MINDS among them", among the WAYS. */
    private static void freedomAmongTheWays() {
        Script s = ring(0, "1100").then("freedom", 15).go("turns 0 5").then("freedom", 10).go("turns 1 5").then("freedom", 0)
            .then("ways", 1);
        s.go("set 0 1 0", "turns 1 0", "rule 0 9").then("ways", 8).then("freedom", 14);
        ten(0, 0, 0).go("turns 9 5", "turns 0 5").then("freedom", 510);
    }

    /** "If all are IN ORDER now: the fewest (1 or more) MINDS"; "NONE: there is no other one". */
    private static void togetherFromOneToTen() {
        new Script().then("together", NONE);
        Script.of("person 0 0 0").then("together", 1).go("turns 0 5").then("together", NONE);
        Script.of("person 0 1 0").then("together", 1).go("turns 0 5").then("together", NONE);
        ring(0, "1100").then("together", 2).go("set 1 1 0").then("together", NO).go("rule 0 2").then("together", 1);
        int[] circles = {418, 429, 498, 914, 908, 199, 804, 831, 223, 216};
        Script s = friendships(ten(0, 0, 0), circles).go("rule 0 1").then("ways", 2).then("together", NO);
        for (int k = 0; k < 10; k++) {
            s.go("set " + k + " 1 " + (334 >> k & 1));
        }
        s.then("together", 10).then("minds 0", 334).then("minds 3", 334).then("minds 2", 334).then("freedom", 1023)
            .go("turns 9 5").then("ways", 1).then("together", NONE);
        friendships(ten(0, 1, 0), circles).go("rule 0 9").then("together", 1);
    }

    /** "100 times the lesser and the other one; of several the least number"; "NONE: there are no such two". */
    private static void bestOfOneTwoAndTen() {
        for (int people = 0; people < 2; people++) {
            Script s = people == 0 ? new Script() : Script.of("person 0 0 0");
            s.then("best 0 0", NONE).then("best 0 1", NONE).then("best 1 0", NONE).then("best 1 1", NONE);
        }
        Script.of("person 0 0 0", "person 0 0 0").then("best 1 0", 1).then("best 1 1", 0).then("best 0 0", NONE)
            .then("best 0 1", NONE).go("friends 1 0 1").then("best 0 0", 1).then("best 0 1", 4).then("best 1 0", NONE)
            .then("best 1 1", NONE);
        Script s = ten(0, 0, 0).go("rule 0 9");
        s.then("best 1 0", 1).then("best 1 1", 1024).go("rule 0 0").then("best 1 0", 1).then("best 1 1", 0);
        s.go("friends 8 9 1").then("best 0 0", 809).then("best 0 1", 1024).then("best 1 1", 0);
        s.go("turns 0 5").then("best 0 1", 512).go("turns 0 0").go("rule 0 9");
        for (int a = 0; a < 10; a++) {
            for (int b = a + 1; b < 10; b++) {
                s.go("friends " + a + " " + b + " 1");
            }
        }
        s.then("best 1 0", NONE).then("best 0 0", 1).then("best 0 1", 1024).go("friends 9 8 0").then("best 1 0", 809)
            .then("best 1 1", 1024).then("best 0 0", 1);
        s.go("friends 9 8 1", "friends 3 7 0").then("best 1 0", 307);
    }

    // ---- A YEAR

    /** "Each that is not IN ORDER pays its DUES": those that are IN ORDER do not. */
    private static void duesOfThoseOutOfOrder() {
        Script s = ring(3, "1111").go("set 1 1 0");
        s.then("years 1", 0).then("town 1", 10).then("told 0 3", 0).then("told 1 3", -5).then("told 2 3", 0).then("told 3 3", -5);
        s.then("told 0 6", 2).then("count 1", 1);
    }

    private static void theSlackOfAYear() {
        Script s = ring(0, "111").go("rule 0 2").then("town 4", 0).then("years 1", 0).then("town 1", 0);
        s.go("rule 0 1").then("town 4", 7).then("years 1", 0).then("town 1", 18).then("told 2 3", -6);
    }

    /** "PURSE -9999 .. 9999 (held within this, whatever is paid)", by DUES and by what one ASKS; all comes into the CHEST. */
    private static void thePurseIsHeld() {
        int[] purses = {-9999, -9998, -9997, -9996, -9995, 9999, 0};
        int[] behind = {-9999, -9999, -9999, -9999, -9998, 9996, -3};
        for (int k = 0; k < purses.length; k++) {
            Script.of("person 0 1 10", "person 0 0 10", "friends 0 1 1", "set 0 3 " + purses[k]).then("years 1", 0)
                .then("told 0 3", behind[k]).then("told 1 3", -3).then("town 1", 6).then("years 2", 0).then("town 1", 18);
        }
        for (int purse = -9788; purse <= -9785; purse++) {
            Script.of("person 3 1 99", "person 0 1 0", "person 0 1 0", "person 0 1 0", "person 0 1 0", "friends 0 1 1",
                "friends 0 2 1", "friends 1 3 1", "friends 2 4 1", "rule 1 1", "set 0 3 " + purse).then("told 0 6", 5)
                .then("told 0 7", 208).then("years 1", 1).then("told 0 3", Math.max(-9999, purse - 213)).then("town 1", 231);
        }
        Script.of("person 5 0 0", "person 5 0 0", "friends 0 1 1", "law dues 9999", "set 0 3 -8001", "set 1 3 -8002")
            .then("years 1", 0).then("told 0 3", -9999).then("told 1 3", -9999).then("town 1", 3996);
    }

    /** "Would be less if it changed its MIND": as much is not less. */
    private static void lessAndNotAsMuch() {
        Script.of("person 0 1 0", "person 0 1 0", "person 0 1 0", "friends 0 1 1", "friends 0 2 1", "rule 1 1")
            .then("years 30", 0).then("town 3", 7).then("town 2", 0);
        for (int mode = 1; mode <= 2; mode++) {
            Script.of("person 0 1 0", "person 0 1 0", "friends 0 1 1", "rule 1 " + mode).then("years 30", 0).then("town 3", 3);
            Script.of("person 0 1 0", "rule 1 " + mode).then("years 30", 0).then("town 3", 1);
        }
        Script s = ring(0, "1111").go("rule 1 1").then("years 1", 1).then("town 3", 14).then("years 50", 0).then("town 3", 14);
        s.go("set 1 1 0", "set 0 1 1", "set 1 1 1", "rule 0 9").then("town 4", 0).then("years 1", 1).then("town 3", 14);
    }

    /** "The one with the greatest OFF (of several the least; none, if it is 0)"; "if it is not FIXED". */
    private static void theGreatestOffAndTheLeastNumber() {
        ring(0, "1111111111").go("rule 1 1").then("years 1", 1).then("town 3", 1022).then("years 9", 0).then("town 3", 1022);
        ring(0, "1111").go("rule 1 1", "turns 0 5").then("years 9", 0).then("town 2", 0);
        ring(0, "1111").go("rule 1 1", "turns 1 5").then("years 9", 1).then("town 3", 14);
        ring(0, "1100").go("rule 1 1").then("town 0", 0).then("years 9", 0).then("town 3", 3);
        ring(0, "1111").go("rule 1 0").then("years 9", 0).then("town 3", 15);
        Script s = ring(0, "11111").go("person 0 1 0", "person 0 1 0", "friends 4 5 1", "friends 4 6 1", "rule 1 1");
        s.then("told 4 5", 4).then("years 1", 1).then("town 3", 111);
    }

    /** "The one that is the rest of a draw by how many there are": the first and the last of ten, one alone. */
    private static void byLot() {
        ring(0, "1111111111").go("rule 1 2", "seed 6").then("years 1", 1).then("town 3", 1022)
            .then("count 9", next(next(6)));
        ring(0, "1111111111").go("rule 1 2", "seed 18").then("years 1", 1).then("town 3", 511)
            .then("count 9", next(next(18)));
        ring(5, "1111111111").go("rule 1 2", "seed 18").then("years 1", 0).then("town 3", 1023)
            .then("count 9", next(next(18)));
        Script.of("person 0 1 0", "rule 1 2", "seed 18").then("years 1", 0).then("count 9", next(next(18)));
    }

    /** "If its rest by 100 is below WHIM": rests 99, 0 and 29, of WHIMS as great and 1 greater; "nothing is paid". */
    private static void belowWhim() {
        int[] seeds = {18, 61, 73};
        int[] rests = {99, 0, 29};
        int[] who = {1, 1, 2};
        for (int k = 0; k < seeds.length; k++) {
            int z = next(seeds[k]);
            ten(0, 0, 50).go("seed " + seeds[k], "rule 2 " + rests[k]).then("years 1", 0).then("town 3", 0).then("count 9", z);
            ten(0, 0, 50).go("seed " + seeds[k], "rule 2 " + (rests[k] + 1)).then("years 1", 1).then("town 3", 1 << who[k])
                .then("count 9", next(z)).then("town 2", 1).then("town 1", 0).then("told " + who[k] + " 3", 0);
        }
        ten(0, 1, 50).go("seed 18", "rule 2 100").then("years 100", 100).then("town 2", 100).then("town 1", 0);
        ten(0, 1, 50).go("rule 2 0").then("years 100", 0).then("town 2", 0).then("town 3", 1023);
    }

    private static void whimOfAFixedOne() {
        ten(0, 0, 50).go("seed 18", "rule 2 100", "turns 1 5").then("years 1", 0).then("town 3", 0).then("town 2", 0)
            .then("count 9", next(next(18)));
        ten(5, 0, 50).go("seed 18", "rule 2 100", "turns 1 4").then("years 1", 1).then("town 3", 2);
    }

    /** "(If there are PEOPLE)": no draws of nobody. */
    private static void nobodyDraws() {
        for (int mode = 0; mode < 3; mode++) {
            new Script().go("rule 2 100", "rule 1 " + mode).then("years 100", 0).then("count 9", 1).then("count 1", 100)
                .then("town 2", 0).then("behind 100 2", 0).then("settles", 0);
        }
        Script.of("person 5 0 0").then("years 1", 0).then("count 9", next(1));
    }

    // ---- years

    /** "N (1 .. 100) YEARS: CHANGES in them". */
    private static void yearsFromOneToAHundred() {
        Script s = ten(0, 1, 50).go("rule 2 100");
        s.then("years 1", 1).then("count 1", 1).then("years 100", 100).then("count 1", 101).then("town 2", 101);
        s.then("years 0", BAD).then("years 101", BAD).then("count 1", 101).then("years 99", 99).then("town 2", 200);
    }

    private static Script atYear(Script s, int year) {
        for (int k = 0; k < year / 100; k++) {
            s.go("years 100");
        }
        return year % 100 == 0 ? s : s.go("years " + year % 100);
    }

    /** "No more than up to 9999": n YEARS, or as many as are left. */
    private static void theLastYear() {
        Script s = atYear(ring(0, "11").go("rule 2 100"), 9898);
        s.go("keep").then("years 100", 100).then("count 1", 9998).then("years 100", 1).then("count 1", 9999);
        int z = s.call("count 9");
        s.then("years 1", 0).then("years 100", 0).then("count 1", 9999).then("count 9", z).then("town 1", 9999 * 6)
            .then("town 2", 9999).then("years 101", BAD).then("years 0", BAD);
        s.then("back", 2).then("years 99", 99).then("count 1", 9997).then("years 2", 2).then("count 1", 9999);
        s.then("back", 2).then("years 100", 100).then("years 1", 1).then("years 1", 0).then("town 2", 9999);
        s.then("back", 2).then("count 1", 9898).then("town 2", 9898);
    }

    /** "All that follows is only thought, without the bound of THE YEAR": BEHIND, SETTLES, WON; THE YEARS TOLD have it. */
    private static void thoughtBeyondTheLastYear() {
        Script s = atYear(ring(0, "1111"), 9999).go("rule 2 100", "seed 6").then("count 1", 9999);
        int z = 6;
        int minds = 15;
        int years = 0;
        for (int k = 0; k < 2 || minds != 3 && minds != 6 && minds != 9 && minds != 12; k++) {
            z = next(next(z));
            minds ^= 1 << (z >>> 8) % 4;
            years++;
        }
        s.then("settles", years).then("behind " + years + " 0", 0).then("behind " + years + " 3", minds)
            .then("behind " + years + " 2", years).then("behind 100 2", 100).then("behind 0 2", 0);
        s.then("town 3", 15).then("count 9", 6).then("years 5", 0).then("town 3", 15);
        s.go("rule 2 0", "rule 1 1", "set 0 1 0").then("won 1 0", 1).then("won 60 1", 0).go("set 0 1 1").then("won 60 0", 0)
            .then("won 60 1", 4).then("behind 1 3", 14).then("behind 100 1", 9999 * 24 + 24 + 10 + 99 * 12);
        s.then("keep", 4).then("check 30", 0).go("tell 14").then("check 30", 1);
        Script t = atYear(ring(0, "1111111111"), 9999).go("rule 1 1");
        t.then("won 1 0", 3).then("won 1 1", 12).then("won 60 0", 3).then("won 60 1", 12).then("years 9", 0).then("town 3", 1023);
    }

    /** "BEHIND n (0 .. 100) YEARS": behind none all is as it is now; behind 100 as it comes. */
    private static void behindNoneAndAHundred() {
        Script s = Script.of("seed 12", "deal 10", "rule 1 2", "rule 2 40");
        for (int k = 0; k < 10; k++) {
            s.go("friends " + k + " " + (k + 3) % 10 + " 1");
        }
        s.go("years 7").then("town 2", s.call("behind 0 2"));
        for (int times = 0; times < 2; times++) {
            int[] whats = {0, 1, 2, 3};
            for (int what : whats) {
                s.then("behind 0 " + what, s.call("town " + what));
            }
            int[] told = {s.call("behind 100 0"), s.call("behind 100 1"), s.call("behind 100 2"), s.call("behind 100 3")};
            s.then("years 99", s.call("behind 99 2") - s.call("town 2")).go("years 1");
            for (int what : whats) {
                s.then("town " + what, told[what]);
            }
        }
        new Script().then("behind 0 3", 0).then("behind 100 1", 0);
    }

    /** From so many for by whims: behind how many YEARS a ring of four is IN ORDER first; up to 202. */
    private static int whims(int seed, int whim) {
        int z = seed;
        int minds = 15;
        int year = 0;
        while (year < 202 && minds != 3 && minds != 6 && minds != 12 && minds != 9) {
            z = next(z);
            if ((z >>> 8) % 100 < whim) {
                z = next(z);
                minds ^= 1 << (z >>> 8) % 4;
            }
            year++;
        }
        return year;
    }

    /** "SETTLES: behind how many YEARS (0 .. 200) all are IN ORDER first"; "NONE: not by then". */
    private static void settlesAtTheEnds() {
        new Script().then("settles", 0);
        ring(0, "1100").then("settles", 0).go("rule 2 100").then("settles", 0);
        ring(0, "11").then("settles", NONE).go("rule 0 1").then("settles", 0);
        int[] wanted = {2, 199, 200, 201};
        for (int want : wanted) {
            int seed = 0;
            while (seed < 3000000 && whims(seed, 1 + 99 / want) != want) {
                seed++;
            }
            ring(0, "1111").go("rule 2 " + (1 + 99 / want), "seed " + seed).then("settles", want > 200 ? NONE : want)
                .then("count 9", seed).then("count 1", 0);
        }
    }

    /** "WON for n (1 .. 60)"; "NONE: there are no PEOPLE". */
    private static void wonAtTheEnds() {
        new Script().then("won 1 0", NONE).then("won 1 1", NONE).then("won 60 0", NONE).then("won 60 1", NONE);
        Script.of("person 0 1 0").then("won 1 0", 0).then("won 1 1", 0).then("won 60 0", 0).then("won 60 1", 0);
        Script s = ring(0, "1111111111").go("rule 1 2", "rule 2 60", "seed 31", "turns 4 5", "friends 2 7 1");
        int[] years = {1, 59, 60};
        for (int n : years) {
            int who = -1;
            int least = 0;
            s.go("keep");
            for (int one = 0; one < 10; one++) {
                s.go("set " + one + " 1 0", "years " + n);
                int off = s.call("town 0");
                if (who < 0 || off < least) {
                    least = off;
                    who = one;
                }
                s.go("back");
            }
            s.then("won " + n + " 0", who).then("won " + n + " 1", least).then("count 9", 31);
        }
    }

    /** "Of several the least"; the one whose MIND is otherwise may be FIXED. */
    private static void wonOfSeveral() {
        ten(0, 1, 0).then("won 1 0", 0).then("won 60 1", 0);
        ring(0, "1111").then("won 1 0", 0).then("won 1 1", 4).go("set 3 1 0").then("won 1 0", 0).then("won 1 1", 0);
        ring(0, "1110").go("friends 0 1 0").then("won 1 0", 0).then("won 1 1", 2).go("turns 0 5").then("won 1 0", 0);
        Script.of("person 5 0 0").then("won 1 0", 0);
    }

    /** "LIED by a SHEET": SHEETS 0 and 3, of no place, of less and of more places than PEOPLE; "of several the least". */
    private static void liedAtTheEnds() {
        Script s = new Script();
        s.then("lied 0 0", Due.NOTHING).go("sheet 0 0 0", "sheet 3 1 24").then("lied 0 0", NONE).then("lied 3 1", NONE);
        s.go("person 0 1 0").then("lied 0 0", 0).then("lied 0 1", 0).then("lied 3 0", 0).then("lied 3 1", 0);
        s.go("person 0 1 0", "person 0 1 0", "friends 0 1 1", "friends 1 2 1", "sheet 0 0 2");
        s.then("lied 0 1", 1).then("lied 0 0", 0).go("mark 0 0 1", "mark 0 1 2").then("lied 0 0", 1).then("lied 0 1", 0);
        s.go("mark 0 1 -2").then("lied 0 1", 2).then("lied 0 0", 0).go("mark 0 1 -32768").then("lied 0 1", 32768);
        s.go("mark 0 1 32767").then("lied 0 0", 1).then("lied 0 1", 32765);
        s.go("mark 3 0 NONE", "mark 3 1 NONE", "mark 3 2 NONE").then("lied 3 1", 0).go("mark 3 2 1").then("lied 3 1", 0);
        s.go("mark 3 1 99999").then("lied 3 0", 1).then("lied 3 1", 99997).go("mark 3 1 -99999").then("lied 3 0", 0)
            .then("lied 3 1", 99999);
    }

    /** The one whose MIND is otherwise may be FIXED; MINDS are taken as they are now. */
    private static void liedByAFixedOne() {
        Script s = ring(0, "1111").go("turns 0 5", "keep", "sheet 0 0 4", "mark 0 0 2", "mark 0 2 2");
        s.then("lied 0 0", 0).then("lied 0 1", 0).then("town 4", 15).go("set 1 1 0", "sheet 0 0 4").then("town 4", 10);
        s.then("lied 0 0", 0).then("lied 0 1", 0).go("mark 0 1 2", "mark 0 3 2").then("lied 0 1", 4).then("lied 0 0", 0);
    }

    /** "Places beyond all PEOPLE: 0": ten PEOPLE, and 14 places more; NO NUMBER counts nowhere. */
    private static void liedBeyond() {
        Script s = ten(0, 1, 0).go("sheet 1 1 24");
        for (int k = 0; k < 24; k++) {
            s.go("mark 1 " + k + " " + (k % 2 == 0 ? 99999 : -99999));
        }
        s.then("lied 1 1", 24 * 99999).then("lied 1 0", 0).go("mark 1 23 NONE", "mark 1 10 NONE").then("lied 1 1", 22 * 99999);
        s.go("sheet 2 0 24", "mark 2 9 1", "mark 2 10 1", "mark 2 23 -32768").then("lied 2 1", 1 + 1 + 32768);
        s.go("friends 8 9 1").then("lied 2 1", 1 + 0 + 1 + 32768);
    }

    /** "What fee gives; without a TEXT: CHEST"; "what fine gives for one; without a TEXT: OFF", at the ends of their NAMES. */
    private static void feeAndFine() {
        Script s = ring(0, "11").then("fee", 0).then("fine 0", 1).then("fine 1", 1).then("fine 2", BAD).go("years 1").then("fee", 6);
        s.then("law fee c*y", 0).then("fee", 6).then("law fee y-c", 1).then("fee", -5);
        s.then("law fine p", 2).then("fine 0", -3).go("set 0 3 -9999", "set 1 3 9999").then("fine 0", -9999).then("fine 1", 9999);
        Script t = atYear(ring(5, "11"), 9999).then("town 1", 9999 * 12).then("fee", 119988).then("law fee y", 0).then("fee", 9999);
        t.then("law fee c*c", 1).then("fee", 119988 * 119988).then("law fine p*p*p", 2).then("fine 1", -9999 * 9999 * 9999);
    }
}

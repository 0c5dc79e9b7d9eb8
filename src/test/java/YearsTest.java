/** Promises 17 to 23: years. */
public final class YearsTest {
    private static final int BAD = Due.BAD, NONE = Due.NONE;
    private static int z;

    public static void main(String[] args) {
        byTheWorst();
        aFixedOneIsLookedAtInVain();
        theWorstOfSeveral();
        byLot();
        byWhims();
        whimsOfFixedOnes();
        draws();
        thePurse();
        untilTheLastYear();
        behind();
        settles();
        won();
        lied();
        liedOfPlaces();
        liedBeyondPeople();
        feeAndFine();
        ten();
        Due.end();
    }

    private static void due(String call, long got, long want) {
        Due.due(call, got, want);
    }

    private static int draw() {
        z = z * 1103515245 + 12345;
        return z >>> 8;
    }

    /** The row 3 - 1 - 0 - 2 - 4, all for, price 10: 0 has the greatest OFF, 1 and 2 as great a one. */
    private static HalfFriends row() {
        HalfFriends x = new HalfFriends();
        for (int k = 0; k < 5; k++) {
            x.person(0, 1, 10);
        }
        x.friends(3, 1, 1);
        x.friends(1, 0, 1);
        x.friends(0, 2, 1);
        x.friends(2, 4, 1);
        return x;
    }

    private static void byTheWorst() {
        HalfFriends x = row();
        x.rule(1, 1);
        due("one changes", x.years(1), 1);
        due("it is 0", x.town(3), 30);
        due("dues as ahead of the changes, and 10 asked", x.town(1), 34);
        int[] purses = {-16, -6, -6, -3, -3};
        for (int k = 0; k < 5; k++) {
            due("purse " + k, x.told(k, 3), purses[k]);
        }
        due("nobody changes", x.years(1), 0);
        due("CHEST", x.town(1), 46);
        due("CHANGES", x.town(2), 1);
        due("THE YEAR", x.count(1), 2);
        x.rule(0, 1);
        due("with SLACK 1", x.years(1), 0);
        due("only 0 pays", x.town(1), 52);
        x.set(0, 1, 1);
        x.rule(0, 9);
        due("one changes, though all are in order", x.years(2), 1);
        due("only what it asks is paid", x.town(1), 62);
        due("CHANGES in all", x.town(2), 2);
        x.rule(1, 0);
        x.set(0, 1, 1);
        due("by MODE 0 nobody", x.years(3), 0);
        for (int wild : Due.WILD) {
            due("years " + wild, x.years(wild), BAD);
        }
        due("years 0", x.years(0), BAD);
        due("years 101", x.years(101), BAD);
        due("THE YEAR", x.count(1), 8);
    }

    private static void aFixedOneIsLookedAtInVain() {
        HalfFriends x = row();
        x.turns(0, 5);
        x.rule(1, 1);
        due("nobody else is looked at", x.years(5), 0);
        due("FIXED pays twice", x.told(0, 3), -60);
        x.turns(0, 3);
        due("ODD changes", x.years(1), 1);
        due("ODD pays 5 and asks 30", x.told(0, 3), -95);
    }

    private static void theWorstOfSeveral() {
        HalfFriends x = row();
        x.rule(1, 1);
        x.person(0, 0, 10);
        x.friends(5, 0, 1);
        x.friends(5, 4, 1);
        due("0 has OFF 1, 1 the greatest", x.told(0, 5), 1);
        due("1 changes for 0 alone: OFF of 1, 0, 3 stays 4", x.years(1), 0);
        x.set(5, 1, 1);
        due("0 has OFF 3", x.told(0, 5), 3);
        due("0 changes", x.years(1), 1);
        due("it is 0", x.town(3), 62);
        HalfFriends w = new HalfFriends();
        for (int k = 0; k < 6; k++) {
            w.person(0, 1, 0);
        }
        for (int k = 0; k < 6; k++) {
            if (k != 2) {
                w.friends(2, k, 1);
            }
        }
        w.friends(0, 1, 1);
        w.rule(1, 1);
        due("2 has OFF 5: it changes for 0 and 1, who have OFF 2", w.years(1), 1);
        due("it is 2", w.town(3), 59);
        w.set(2, 1, 1);
        w.set(1, 1, 0);
        due("2 has OFF 3: 0 has OFF 0 and would have 2, 1 has OFF 2", w.years(1), 0);
        w.friends(0, 3, 1);
        w.friends(0, 4, 1);
        due("2 has OFF 3 still", w.told(2, 5), 3);
        due("0 has OFF 2 and would have 0, 1 likewise, 3 and 4 likewise", w.years(1), 1);
        HalfFriends y = new HalfFriends();
        y.person(0, 1, 0);
        y.rule(1, 1);
        due("OFF 0: none is looked at", y.years(3), 0);
    }

    /** A ring of four, all for: the first that is drawn changes, then the first of its friends that is. */
    private static void byLot() {
        for (int seed = 1; seed < 40; seed++) {
            HalfFriends x = Due.ring(0, 1, 1, 1, 1);
            x.rule(1, 2);
            x.seed(seed);
            z = seed;
            int first = draw() % 4;
            draw();
            due("the first", x.years(1), 1);
            due("the first by lot", x.town(3), 15 ^ 1 << first);
            int one = first;
            int years = 1;
            while (((one - first) & 1) == 0) {
                one = draw() % 4;
                draw();
                years++;
            }
            due("SETTLES", x.settles(), years - 1);
            due("CHANGES", x.years(years + 3), 1);
            due("the second by lot", x.town(3), 15 ^ 1 << first ^ 1 << one);
        }
    }

    private static void byWhims() {
        HalfFriends x = new HalfFriends();
        for (int k = 0; k < 7; k++) {
            x.person(k % 5, k & 1, 20);
        }
        x.rule(2, 37);
        z = 1;
        int minds = x.town(3);
        int changes = 0;
        for (int year = 0; year < 60; year++) {
            int before = changes;
            if (draw() % 100 < 37) {
                minds ^= 1 << draw() % 7;
                changes++;
            }
            due("CHANGES of the year", x.years(1), changes - before);
            due("who is for", x.town(3), minds);
            due("z", x.count(9), z);
        }
        due("CHANGES in all", x.town(2), changes);
        due("nothing is paid", x.town(1), 0);
        due("some changed", changes > 0 && changes < 60 ? 1 : 0, 1);
    }

    private static void whimsOfFixedOnes() {
        HalfFriends x = new HalfFriends();
        x.person(5, 1, 20);
        x.rule(2, 100);
        x.rule(1, 2);
        due("FIXED stays", x.years(20), 0);
        z = 1;
        for (int k = 0; k < 60; k++) {
            draw();
        }
        due("three draws a year", x.count(9), z);
    }

    private static void draws() {
        HalfFriends x = new HalfFriends();
        x.rule(2, 100);
        x.rule(1, 2);
        x.years(10);
        due("no draws of nobody", x.count(9), 1);
        due("THE YEAR", x.count(1), 10);
        x.person(0, 1, 0);
        x.rule(2, 0);
        x.rule(1, 1);
        z = 1;
        draw();
        x.years(1);
        due("one draw with WHIM 0", x.count(9), z);
        x.rule(1, 0);
        draw();
        x.years(1);
        due("one draw with MODE 0", x.count(9), z);
        x.rule(1, 2);
        draw();
        draw();
        x.years(1);
        due("two draws with MODE 2", x.count(9), z);
    }

    private static void thePurse() {
        HalfFriends x = Due.ring(5, 1, 1);
        x.set(0, 3, -9996);
        x.set(1, 3, 9999);
        x.years(1);
        due("held within -9999", x.told(0, 3), -9999);
        due("pays 6", x.told(1, 3), 9993);
        due("all 12 come", x.town(1), 12);
    }

    private static void untilTheLastYear() {
        HalfFriends x = Due.ring(0, 1, 1);
        for (int k = 0; k < 99; k++) {
            x.years(100);
        }
        due("THE YEAR", x.count(1), 9900);
        x.years(98);
        due("CHEST", x.town(1), 9998 * 6);
        x.years(100);
        due("THE YEAR", x.count(1), 9999);
        due("CHEST of 9999 years", x.town(1), 9999 * 6);
        int last = x.count(9);
        due("no more years", x.years(1), 0);
        due("CHEST stays", x.town(1), 9999 * 6);
        due("z stays", x.count(9), last);
        due("BEHIND has no bound", x.behind(100, 1), 10099 * 6);
        due("years 101", x.years(101), BAD);
    }

    private static void behind() {
        HalfFriends x = row();
        x.rule(1, 1);
        x.years(1);
        x.set(0, 1, 1);
        String before = Due.look(x);
        int[][] want = {{8, 34, 1, 31}, {4, 68, 2, 30}, {4, 80, 2, 30}, {4, 92, 2, 30}};
        for (int n = 0; n < 4; n++) {
            for (int what = 0; what < 4; what++) {
                due("behind " + n + " " + what, x.behind(n, what), want[n][what]);
            }
        }
        for (int wild : Due.WILD) {
            due("behind " + wild, x.behind(wild, 0), BAD);
            due("behind what " + wild, x.behind(0, wild), BAD);
        }
        due("behind 101", x.behind(101, 0), BAD);
        due("behind what 4", x.behind(1, 4), BAD);
        due("behind 100", x.behind(100, 1), 68 + 99 * 12);
        due("nothing changed", Due.look(x).equals(before) ? 1 : 0, 1);
        x.rule(2, 100);
        x.rule(1, 2);
        before = Due.look(x);
        int[] told = {x.behind(50, 0), x.behind(50, 1), x.behind(50, 2), x.behind(50, 3)};
        due("z is as it was", Due.look(x).equals(before) ? 1 : 0, 1);
        x.years(50);
        for (int what = 0; what < 4; what++) {
            due("the years come so " + what, x.town(what), told[what]);
        }
    }

    private static void settles() {
        HalfFriends x = new HalfFriends();
        due("nobody is in order", x.settles(), 0);
        HalfFriends y = Due.ring(0, 1, 1);
        due("two friends never are", y.settles(), NONE);
        y.rule(0, 1);
        due("with SLACK 1 they are", y.settles(), 0);
        HalfFriends w = Due.ring(0, 1, 1, 1, 1);
        w.rule(2, 3);
        for (int seed = 0; seed < 60; seed++) {
            w.seed(seed);
            z = seed;
            int minds = 15;
            int year = 0;
            while (year < 202 && minds != 3 && minds != 6 && minds != 12 && minds != 9) {
                if (draw() % 100 < 3) {
                    minds ^= 1 << draw() % 4;
                }
                year++;
            }
            due("settles by whims from " + seed, w.settles(), year <= 200 ? year : NONE);
        }
        due("THE YEAR stays", w.count(1), 0);
        due("z stays", w.count(9), 59);
        at200();
    }

    /** Seeds are looked for with which a ring of four is in order behind 200 and behind 201 YEARS first. */
    private static void at200() {
        HalfFriends w = Due.ring(0, 1, 1, 1, 1);
        w.rule(2, 1);
        int seen = 0;
        for (int seed = 0; seed < 2000000 && seen < 3; seed++) {
            z = seed;
            int minds = 15;
            int year = 0;
            while (year < 202 && minds != 3 && minds != 6 && minds != 12 && minds != 9) {
                if (draw() % 100 < 1) {
                    minds ^= 1 << draw() % 4;
                }
                year++;
            }
            boolean settled = minds == 3 || minds == 6 || minds == 12 || minds == 9;
            int sight = settled && year == 200 ? 1 : settled && year == 201 ? 2 : 0;
            if ((sight & ~seen) != 0) {
                seen |= sight;
                w.seed(seed);
                due("settles at " + year, w.settles(), year == 200 ? 200 : NONE);
            }
        }
        due("both were seen", seen, 3);
    }

    private static void won() {
        HalfFriends x = row();
        String before = Due.look(x);
        due("0 is won", x.won(1, 0), 0);
        due("OFF then", x.won(1, 1), 4);
        x.rule(1, 1);
        x.turns(0, 5);
        due("a FIXED one may be won", x.won(60, 0), 0);
        x.turns(0, 0);
        x.rule(1, 0);
        due("nothing changed", Due.look(x).equals(before) ? 1 : 0, 1);
        HalfFriends y = Due.ring(0, 1, 1, 1, 1);
        due("of several the least", y.won(7, 0), 0);
        due("OFF then", y.won(7, 1), 4);
        y.set(1, 1, 0);
        due("0 or 2, beside 1", y.won(7, 0), 0);
        due("OFF then", y.won(7, 1), 0);
        y.set(2, 1, 0);
        due("all is in order: any is wrong", y.won(1, 1), 4);
        y.set(1, 1, 1);
        y.set(2, 1, 0);
        y.set(0, 1, 0);
        due("0 and 2 are against: 1 or 3 puts 0 and 2 right", y.won(1, 0), 0);
        y.rule(1, 2);
        wonByYears(y);
        for (int wild : Due.WILD) {
            due("won " + wild, y.won(wild, 0), BAD);
            due("won what " + wild, y.won(1, wild), BAD);
        }
        due("won 0", y.won(0, 0), BAD);
        due("won 61", y.won(61, 0), BAD);
        due("won what 2", y.won(1, 2), BAD);
        due("won of nobody", new HalfFriends().won(1, 0), NONE);
        due("won of nobody", new HalfFriends().won(60, 1), NONE);
        due("BAD stands ahead of NONE", new HalfFriends().won(61, 1), BAD);
    }

    /** WON is what years on copies give. */
    private static void wonByYears(HalfFriends y) {
        for (int n = 1; n <= 6; n++) {
            int who = -1;
            int least = 0;
            y.keep();
            for (int one = 0; one < 4; one++) {
                y.set(one, 1, 1 - y.told(one, 1));
                y.years(n);
                if (who < 0 || y.town(0) < least) {
                    least = y.town(0);
                    who = one;
                }
                y.back();
            }
            due("won " + n, y.won(n, 0), who);
            due("won " + n + " OFF", y.won(n, 1), least);
        }
    }

    private static void lied() {
        HalfFriends x = row();
        due("MISSING", x.lied(0, 0), Due.NOTHING);
        due("MISSING", x.lied(3, 1), Due.NOTHING);
        x.sheet(0, 0, 5);
        int[] told = {2, 0, 0, 1, 1};
        for (int k = 0; k < 5; k++) {
            x.mark(0, k, told[k]);
        }
        due("0 lied", x.lied(0, 0), 0);
        due("no differences", x.lied(0, 1), 0);
        x.mark(0, 3, -4);
        due("0 still lied", x.lied(0, 0), 0);
        due("signs are left out", x.lied(0, 1), 5);
        x.mark(0, 0, 0);
        due("0, 1 or 2: OFF 2 0 0, 0 2 2 (1), 0 2 2 (2)", x.lied(0, 1), 7);
        due("of several the least", x.lied(0, 0), 0);
        String before = Due.look(x);
        due("4 puts 2 right, 3 puts 1 right", x.lied(0, 1), 7);
        due("nothing changed", Due.look(x).equals(before) ? 1 : 0, 1);
        for (int wild : Due.WILD) {
            due("lied " + wild, x.lied(wild, 0), BAD);
            due("lied what " + wild, x.lied(0, wild), BAD);
        }
        due("lied 4", x.lied(4, 0), BAD);
        due("lied what 2", x.lied(0, 2), BAD);
        due("BAD stands ahead of NOTHING", x.lied(1, 2), BAD);
        HalfFriends y = new HalfFriends();
        due("NOTHING stands ahead of NONE", y.lied(2, 0), Due.NOTHING);
        y.sheet(2, 1, 3);
        due("NONE", y.lied(2, 0), NONE);
        due("NONE", y.lied(2, 1), NONE);
    }

    private static void liedOfPlaces() {
        HalfFriends x = row();
        x.sheet(1, 1, 5);
        int[] told = {0, 2, 0, NONE, NONE};
        for (int k = 0; k < 5; k++) {
            x.mark(1, k, told[k]);
        }
        due("4 puts 2 right; 1 puts 0 right", x.lied(1, 1), 2);
        due("1 is less", x.lied(1, 0), 1);
        x.mark(1, 0, NONE);
        due("4 lied", x.lied(1, 0), 4);
        due("NO NUMBER is left out", x.lied(1, 1), 0);
        x.sheet(2, 0, 1);
        x.mark(2, 0, 2);
        due("beyond the SHEET nothing is told", x.lied(2, 1), 0);
        due("0 is the least", x.lied(2, 0), 0);
        x.sheet(2, 0, 0);
        due("a SHEET of no places", x.lied(2, 0), 0);
        due("a SHEET of no places", x.lied(2, 1), 0);
        x.sheet(3, 1, 24);
        x.mark(3, 0, -99999);
        due("a large number", x.lied(3, 1), 99999 + 2 + 2 + 1 + 1 - 2);
    }

    /** Of a place beyond all PEOPLE a number is held against 0, whosever MIND is otherwise. */
    private static void liedBeyondPeople() {
        HalfFriends x = row();
        int[] told = {0, 2, 0, 1, 1, 0, 7, -4, 0, 77};
        x.sheet(0, 0, 10);
        x.sheet(1, 1, 10);
        for (int k = 0; k < 10; k++) {
            x.mark(0, k, told[k]);
            x.mark(1, k, told[k]);
        }
        for (int sheet = 0; sheet < 2; sheet++) {
            due("0 lied: OFF 2 0 0 1 1; 1: 0 2 2 1 1", x.lied(sheet, 0), 1);
            due("2, and 7, 4, 77 beyond all PEOPLE", x.lied(sheet, 1), 2 + 7 + 4 + 77);
        }
        x.mark(1, 6, NONE);
        due("NO NUMBER beyond all PEOPLE is left out", x.lied(1, 1), 2 + 4 + 77);
        x.person(0, 0, 0);
        x.person(0, 0, 0);
        x.friends(5, 6, 1);
        due("5 and 6 are somebody now: OFF 1 against 0 and 7", x.lied(0, 1), 2 + 1 + 6 + 4 + 77);
        x.sheet(2, 1, 24);
        for (int k = 0; k < 24; k++) {
            x.mark(2, k, k < 7 ? NONE : 99999);
        }
        due("all places beyond all PEOPLE", x.lied(2, 1), 17 * 99999);
        due("of several the least", x.lied(2, 0), 0);
        due("nobody lied of nobody", beyondNobody(), NONE);
    }

    private static int beyondNobody() {
        HalfFriends x = new HalfFriends();
        x.sheet(0, 0, 3);
        x.mark(0, 1, 5);
        return x.lied(0, 1);
    }

    private static void ten() {
        HalfFriends x = Due.ring(0, 1, 1, 1, 1, 1, 1, 1, 1, 1, 1);
        x.rule(1, 1);
        due("with 3 otherwise 0 changes, and four have OFF 0", x.won(1, 1), 12);
        due("3 is won: beside 0, 1, 2 nobody changes for the better", x.won(1, 0), 3);
        due("0 changes", x.years(1), 1);
        due("it is 0", x.town(3), 1022);
        due("all pay 6, and 0 what it asks", x.town(1), 70);
        due("9 has OFF 0", x.told(9, 5), 0);
        x.sheet(0, 0, 24);
        due("lied", x.lied(0, 1), 12);
        due("with 1 otherwise 0 and 2 have OFF 0, too", x.lied(0, 0), 1);
        x.rule(1, 2);
        x.rule(2, 100);
        due("SETTLES never: a ring of ten has no order", x.settles(), NONE);
    }

    private static void feeAndFine() {
        HalfFriends x = row();
        x.years(2);
        due("fee is CHEST", x.fee(), 48);
        int[] off = {2, 2, 2, 1, 1};
        for (int k = 0; k < 5; k++) {
            due("fine is OFF", x.fine(k), off[k]);
        }
        due("fine of nobody", x.fine(5), BAD);
        for (int wild : Due.WILD) {
            due("fine " + wild, x.fine(wild), BAD);
        }
        due("text", Due.text(x, "fee y*100+c"), 0);
        due("fee by TEXT", x.fee(), 248);
        due("text", Due.text(x, "fine p*10-o"), 1);
        due("fine by TEXT", x.fine(0), -122);
        due("fine by TEXT", x.fine(3), -61);
        due("fine of nobody by TEXT", x.fine(5), BAD);
        x.years(1);
        due("fee by TEXT, a year on", x.fee(), 372);
    }
}

/** Promises 11 to 16: order. */
public final class OrderTest {
    private static final int BAD = Due.BAD, NONE = Due.NONE;

    public static void main(String[] args) {
        town();
        nobody();
        ringOfFour();
        fixedOnes();
        cheapest();
        least();
        together();
        made();
        broken();
        ten();
        wrongArguments();
        Due.end();
    }

    private static void due(String call, long got, long want) {
        Due.due(call, got, want);
    }

    /** 0 - 1 - 2 and 3: 0 and 2 are for. */
    private static void town() {
        HalfFriends x = new HalfFriends();
        for (int k = 0; k < 4; k++) {
            x.person(0, k % 2 == 0 ? 1 : 0, 10);
        }
        x.friends(0, 1, 1);
        x.friends(1, 2, 1);
        int[] want = {4, 0, 0, 5, 7, 5};
        for (int what = 0; what < 6; what++) {
            due("town " + what, x.town(what), want[what]);
        }
        x.rule(0, 1);
        due("not in order with SLACK 1", x.town(4), 2);
        x.rule(0, 2);
        due("not in order with SLACK 2", x.town(4), 0);
        x.years(1);
        due("all in order: nothing is paid", x.town(1), 0);
        x.rule(0, 0);
        x.years(1);
        due("CHEST", x.town(1), 3 + 6 + 3);
        due("town 6", x.town(6), BAD);
        for (int wild : Due.WILD) {
            due("town " + wild, x.town(wild), BAD);
        }
    }

    private static void nobody() {
        HalfFriends x = new HalfFriends();
        due("ways of nobody", x.ways(), 1);
        for (int what = 0; what < 4; what++) {
            due("minds of nobody", x.minds(what), 0);
        }
        due("freedom of nobody", x.freedom(), 0);
        due("freedom, ahead of all else", Due.ring(0, 0, 0, 1, 1).freedom(), 15);
        due("together of nobody", x.together(), NONE);
        due("together of nobody, ahead of all else", new HalfFriends().together(), NONE);
        due("best of nobody", x.best(1, 1), NONE);
        x.person(0, 1, 0);
        due("one alone", x.ways(), 2);
        due("one alone is free", x.freedom(), 1);
        due("one alone together", x.together(), 1);
        due("one alone has no two", x.best(1, 0), NONE);
        due("one alone has no two", x.best(0, 1), NONE);
    }

    /** In a ring of four each needs its two neighbours to differ: 0011 and its turns. */
    private static void ringOfFour() {
        HalfFriends x = Due.ring(0, 0, 0, 0, 1);
        due("ways", x.ways(), 4);
        due("FEWEST: 9 and 12 are as near, 9 is less", x.minds(0), 9);
        due("CHEAPEST", x.minds(1), 9);
        due("MOST", x.minds(2), 3);
        due("LEAST", x.minds(3), 3);
        due("freedom", x.freedom(), 15);
        due("not all are in order", x.together(), Due.NO);
        x.set(0, 1, 1);
        due("two must change together", x.together(), 2);
        x.rule(0, 2);
        due("with SLACK 2 all is in order", x.ways(), 16);
        due("MOST", x.minds(2), 15);
        due("LEAST", x.minds(3), 0);
        due("FEWEST is as it is", x.minds(0), 9);
        due("one alone may change", x.together(), 1);
        due("nothing changed", x.town(3), 9);
    }

    private static void fixedOnes() {
        HalfFriends x = Due.ring(0, 1, 1, 0, 1);
        x.turns(1, 5);
        due("ways with 1 fixed for", x.ways(), 2);
        due("FEWEST", x.minds(0), 3);
        due("freedom", x.freedom(), 5);
        x.set(1, 1, 0);
        due("ways with 1 fixed against", x.ways(), 2);
        due("FEWEST", x.minds(0), 9);
        due("LEAST", x.minds(3), 9);
        x.turns(3, 5);
        x.turns(2, 5);
        due("one way", x.ways(), 1);
        due("MOST", x.minds(2), 9);
        due("nobody is free", x.freedom(), 0);
        due("in order", x.town(4), 0);
        due("no other one", x.together(), NONE);
        x.turns(0, 5);
        x.turns(1, 0);
        x.turns(2, 0);
        x.turns(3, 0);
        due("ways with 0 fixed for", x.ways(), 2);
        due("freedom with 0 fixed for", x.freedom(), 10);
        x.set(0, 1, 0);
        x.set(3, 1, 0);
        due("ways with 0 fixed against", x.ways(), 2);
        due("freedom with 0 fixed against", x.freedom(), 10);
        for (int k = 0; k < 4; k++) {
            x.turns(k, 5);
        }
        due("no way", x.ways(), 0);
        for (int what = 0; what < 4; what++) {
            due("no minds", x.minds(what), NONE);
        }
        due("no freedom", x.freedom(), 0);
    }

    /** From 0000 in a ring of four two neighbours must change: FREE ones ask nothing. */
    private static void cheapest() {
        HalfFriends x = Due.ring(0, 0, 0, 0, 0);
        due("all ask the same: the least number", x.minds(1), 3);
        x.set(0, 2, 11);
        due("0 asks more", x.minds(1), 6);
        x.set(2, 2, 12);
        due("2 asks still more", x.minds(1), 3);
        x.turns(3, 4);
        due("3 asks nothing", x.minds(1), 9);
        x.turns(0, 3);
        due("0 is ODD and asks 32", x.minds(1), 12);
        due("FEWEST does not ask", x.minds(0), 3);
        x.turns(0, 2);
        due("0 is LEANING and asks 5", x.minds(1), 9);
        x.set(0, 1, 1);
        x.set(1, 1, 1);
        x.set(2, 1, 1);
        due("0 to be against asks 5, 2 asks 12", x.minds(1), 6);
        x.set(0, 2, 99);
        due("0 asks 49", x.minds(1), 3);
    }

    private static void least() {
        HalfFriends x = new HalfFriends();
        for (int k = 0; k < 3; k++) {
            x.person(0, 1, 7);
        }
        x.friends(0, 1, 1);
        x.friends(1, 2, 1);
        x.rule(0, 1);
        due("ends of the row differ", x.ways(), 4);
        due("MOST: 3 or 6", x.minds(2), 3);
        due("LEAST: 1 or 4", x.minds(3), 1);
        due("FEWEST: 3 or 6", x.minds(0), 3);
        due("freedom", x.freedom(), 7);
        x.set(0, 1, 0);
        due("together", x.together(), 1);
        x.turns(1, 5);
        due("together with 1 fixed", x.together(), 2);
        due("freedom with 1 fixed", x.freedom(), 5);
    }

    private static void together() {
        HalfFriends w = Due.ring(0, 0, 1, 1, 0);
        due("two must change, ahead of all else", w.together(), 2);
        HalfFriends x = Due.ring(0, 1, 1, 0, 0, 1, 1, 0, 0);
        due("two rings of four each in one of eight", x.ways(), 4);
        due("four must change", x.together(), 4);
        x.person(5, 1, 0);
        due("the fixed one stays", x.together(), 4);
        x.turns(8, 0);
        due("the lone one may change", x.together(), 1);
    }

    /** Two alone, a third, and a fourth: ties go to the least number. */
    private static void made() {
        HalfFriends x = new HalfFriends();
        for (int k = 0; k < 3; k++) {
            x.person(0, 0, 0);
        }
        due("any friendship leaves none", x.best(1, 1), 0);
        x.rule(0, 1);
        due("with SLACK 1 one friendship leaves all", x.best(1, 1), 8);
        x.rule(0, 0);
        due("the least two", x.best(1, 0), 1);
        x.friends(0, 1, 1);
        due("0 and 2", x.best(1, 0), 2);
        x.person(0, 0, 0);
        x.friends(1, 2, 1);
        x.friends(2, 3, 1);
        due("the ring closes", x.best(1, 0), 3);
        due("WAYS with it", x.best(1, 1), 4);
        due("nothing changed", x.told(0, 4), 2);
        x.friends(0, 3, 1);
        due("0 and 2", x.best(1, 0), 2);
        x.friends(0, 2, 1);
        x.friends(1, 3, 1);
        due("all are friends", x.best(1, 0), NONE);
        due("all are friends", x.best(1, 1), NONE);
    }

    private static void broken() {
        HalfFriends x = Due.ring(0, 0, 0, 0, 0);
        x.friends(1, 3, 1);
        due("1 and 3", x.best(0, 0), 103);
        due("WAYS with it", x.best(0, 1), 4);
        due("nothing changed", x.town(5), 10);
        x.friends(1, 3, 0);
        due("each leaves none: the least two", x.best(0, 0), 1);
        due("none", x.best(0, 1), 0);
        x.rule(0, 1);
        due("made with SLACK 1", x.best(1, 1), 4);
        due("0 and 2, or 1 and 3", x.best(1, 0), 2);
        due("broken with SLACK 1: the two ends are free of their neighbours", x.best(0, 1), 4);
        for (int a = 0; a < 4; a++) {
            x.friends(a, (a + 1) % 4, 0);
        }
        due("no friends", x.best(0, 0), NONE);
        due("no friends", x.best(0, 1), NONE);
    }

    /** In a ring of ten those of even numbers, and those of odd ones, are a ring of five in which each differs: none. */
    private static void ten() {
        HalfFriends x = Due.ring(3, 1, 1, 0, 0, 1, 1, 0, 0, 1, 1);
        due("no ways", x.ways(), 0);
        due("no minds", x.minds(1), NONE);
        due("nobody is free", x.freedom(), 0);
        x.friends(9, 0, 0);
        due("a row of ten: its ends have one friend", x.ways(), 0);
        x.rule(0, 1);
        due("a row of ten with SLACK 1", x.ways(), 4);
        due("CHEAPEST", x.minds(1), 819);
        due("all are free", x.freedom(), 1023);
        due("five must change", x.together(), 5);
        due("BROKEN anywhere but at the ends there are two rows with 4 ways each", x.best(0, 1), 16);
        due("BROKEN between 1 and 2", x.best(0, 0), 102);
        x.turns(9, 5);
        due("9 is fixed", x.freedom(), 341);
        x.rule(0, 9);
        due("all but 9 are free", x.freedom(), 511);
        due("ways", x.ways(), 512);
    }

    private static void wrongArguments() {
        HalfFriends x = Due.ring(0, 0, 0, 0, 0);
        for (int wild : Due.WILD) {
            due("minds " + wild, x.minds(wild), BAD);
            due("best on " + wild, x.best(wild, 0), BAD);
            due("best what " + wild, x.best(0, wild), BAD);
        }
        due("minds 4", x.minds(4), BAD);
        due("best 2", x.best(2, 0), BAD);
        due("best what 2", x.best(1, 2), BAD);
        HalfFriends y = Due.ring(0, 0, 0, 0);
        due("BAD stands ahead of NONE", y.minds(4), BAD);
        due("a ring of three has ways only with none", y.ways(), 0);
        due("NONE", y.minds(0), NONE);
        due("BAD stands ahead of NONE", new HalfFriends().best(0, 2), BAD);
    }
}

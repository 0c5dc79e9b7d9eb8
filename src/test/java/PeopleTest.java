/** Promises 1 to 10: people, friends. */
public final class PeopleTest {
    private static final int BAD = Due.BAD, FULL = Due.FULL, KIND = Due.KIND;

    public static void main(String[] args) {
        aNewObject();
        person();
        toldOfEachKind();
        dutiesByOff();
        as();
        turns();
        set();
        friends();
        rule();
        deal();
        seed();
        Due.end();
    }

    private static void due(String call, long got, long want) {
        Due.due(call, got, want);
    }

    private static void aNewObject() {
        HalfFriends x = new HalfFriends();
        for (int k = 0; k < 9; k++) {
            due("new count " + k, x.count(k), 0);
        }
        due("new z", x.count(9), 1);
        for (int k = 0; k < 6; k++) {
            due("new town " + k, x.town(k), 0);
        }
        for (int k = 0; k < 3; k++) {
            due("new why " + k, x.why(k), Due.NONE);
        }
        for (int k = 0; k < 4; k++) {
            due("new sheet " + k, x.reads(k), Due.NOTHING);
        }
        for (int k = 0; k < 5; k++) {
            due("new slot " + k, x.rest(k, 3), Due.NOTHING);
        }
        due("no person 0", x.told(0, 0), BAD);
        due("no image", x.back(), Due.NO);
        due("fee", x.fee(), 0);
        HalfFriends y = new HalfFriends();
        y.person(0, 1, 1);
        due("objects have nothing in common", x.count(0), 0);
    }

    private static void person() {
        HalfFriends x = new HalfFriends();
        for (int wild : Due.WILD) {
            due("kind " + wild, x.person(wild, 0, 0), BAD);
            due("mind " + wild, x.person(0, wild, 0), BAD);
            due("price " + wild, x.person(0, 0, wild), BAD);
        }
        due("kind 6", x.person(6, 0, 0), BAD);
        due("mind 2", x.person(0, 2, 0), BAD);
        due("price 100", x.person(0, 0, 100), BAD);
        due("none came", x.count(0), 0);
        due("the first", x.person(5, 1, 99), 0);
        for (int k = 1; k < 10; k++) {
            due("person " + k, x.person(0, 0, 0), k);
        }
        due("the eleventh", x.person(0, 0, 0), FULL);
        due("BAD stands ahead of FULL", x.person(0, 0, 100), BAD);
        due("ten", x.count(0), 10);
        due("kind of 0", x.told(0, 0), 5);
        due("mind of 0", x.told(0, 1), 1);
        due("price of 0", x.told(0, 2), 99);
        due("purse of 0", x.told(0, 3), 0);
        due("friends of 0", x.told(0, 4), 0);
    }

    /** Number 0 of a KIND, price 31, with three friends that are for: OFF 3, as PERSON 9 of dues. */
    private static void toldOfEachKind() {
        int[] dues = {9, 4, 5, 6, 5, 18};
        int[] asks = {31, 36, 15, 72, 0, 31};
        int[] worth = {31, 40, 68, 80, 62, 2};
        for (int kind = 0; kind < 6; kind++) {
            HalfFriends x = new HalfFriends();
            x.person(kind, 0, 31);
            for (int k = 1; k < 4; k++) {
                x.person(0, 1, 0);
                x.friends(k, 0, 1);
            }
            int[] want = {kind, 0, 31, 0, 14, 3, dues[kind], asks[kind], worth[kind]};
            for (int what = 0; what < 9; what++) {
                due("kind " + kind + " told " + what, x.told(0, what), want[what]);
            }
            due("OFF of a friend", x.told(1, 5), 1);
            x.person(0, 0, 0);
            x.friends(0, 4, 1);
            due("OFF 3 less 1", x.told(0, 5), 2);
            for (int wild : Due.WILD) {
                due("told one " + wild, x.told(wild, 0), BAD);
                due("told what " + wild, x.told(0, wild), BAD);
            }
            due("told what 9", x.told(0, 9), BAD);
            due("told of nobody", x.told(5, 0), BAD);
        }
        HalfFriends x = new HalfFriends();
        x.person(4, 0, 99);
        due("WORTH may be below 0", x.told(0, 8), -6);
        x.set(0, 2, 0);
        due("WORTH of FREE", x.told(0, 8), 93);
    }

    private static void dutiesByOff() {
        int[][] want = {{0, 3, 6, 9}, {0, 1, 3, 4}, {0, 0, 2, 5}, {2, 3, 5, 6}, {0, 0, 2, 5}, {0, 6, 12, 18}};
        for (int kind = 0; kind < 6; kind++) {
            HalfFriends x = new HalfFriends();
            x.person(kind, 0, 0);
            for (int k = 0; k < 4; k++) {
                due("DUES of KIND " + kind + " with OFF " + k, x.told(0, 6), want[kind][k]);
                x.person(0, 0, 0);
                x.friends(0, k + 1, 1);
            }
        }
    }

    private static void as() {
        String[] fits = {"0", "10", "20", "310", "420", "50"};
        HalfFriends x = new HalfFriends();
        for (int kind = 0; kind < 6; kind++) {
            x.person(kind, 0, 40 + kind);
        }
        for (int one = 0; one < 6; one++) {
            for (int kind = 0; kind < 6; kind++) {
                boolean is = fits[one].indexOf('0' + kind) >= 0;
                due("as " + one + " " + kind, x.as(one, kind), is ? 40 + one : KIND);
            }
        }
        for (int wild : Due.WILD) {
            due("as one " + wild, x.as(wild, 0), BAD);
            due("as kind " + wild, x.as(0, wild), BAD);
        }
        due("as nobody", x.as(6, 0), BAD);
        due("as no kind", x.as(0, 6), BAD);
    }

    private static void turns() {
        HalfFriends x = new HalfFriends();
        x.person(2, 1, 20);
        due("LEANING worth", x.told(0, 8), 79);
        due("was LEANING", x.turns(0, 5), 2);
        due("is FIXED", x.told(0, 0), 5);
        due("FIXED worth", x.told(0, 8), 2);
        due("mind stays", x.told(0, 1), 1);
        due("was FIXED", x.turns(0, 5), 5);
        due("was FIXED", x.turns(0, 0), 5);
        due("turns kind 6", x.turns(0, 6), BAD);
        due("turns nobody", x.turns(1, 0), BAD);
        for (int wild : Due.WILD) {
            due("turns one " + wild, x.turns(wild, 0), BAD);
            due("turns kind " + wild, x.turns(0, wild), BAD);
        }
        due("is PERSON", x.told(0, 0), 0);
    }

    private static void set() {
        HalfFriends x = new HalfFriends();
        x.person(0, 0, 20);
        x.person(0, 1, 21);
        due("mind was", x.set(0, 1, 1), 0);
        due("mind was", x.set(0, 1, 1), 1);
        due("both are for", x.town(3), 3);
        due("mind was", x.set(1, 1, 0), 1);
        due("only 0 is for", x.town(3), 1);
        due("price was", x.set(1, 2, 99), 21);
        due("price was", x.set(1, 2, 0), 99);
        due("price of 0 stays", x.told(0, 2), 20);
        due("purse was", x.set(0, 3, 9999), 0);
        due("purse was", x.set(0, 3, -9999), 9999);
        due("purse of 1 stays", x.told(1, 3), 0);
        String before = Due.look(x);
        int[][] bad = {{0, 1, 2}, {0, 1, -1}, {0, 2, 100}, {0, 2, -1}, {0, 3, 10000}, {0, 3, -10000}, {0, 0, 0},
            {0, 4, 0}, {2, 1, 0}, {-1, 1, 0}, {Due.LOW, 1, 0}, {Due.HIGH, 1, 0}, {0, Due.LOW, 0}, {0, 1, Due.HIGH},
            {0, 2, Due.LOW}, {0, 3, Due.HIGH}, {0, 3, Due.LOW}};
        for (int[] b : bad) {
            due("set " + b[0] + " " + b[1] + " " + b[2], x.set(b[0], b[1], b[2]), BAD);
        }
        due("refused calls change nothing", Due.look(x).equals(before) ? 1 : 0, 1);
        due("CHANGES count no set", x.town(2), 0);
    }

    private static void friends() {
        HalfFriends x = new HalfFriends();
        for (int k = 0; k < 3; k++) {
            x.person(0, 1, 0);
        }
        due("were not", x.friends(0, 2, 1), 0);
        due("were", x.friends(2, 0, 1), 1);
        due("friends of 0", x.told(0, 4), 4);
        due("friends of 1", x.told(1, 4), 0);
        due("friends of 2", x.told(2, 4), 1);
        String before = Due.look(x);
        int[][] bad = {{0, 0, 1}, {1, 1, 0}, {0, 3, 1}, {3, 0, 1}, {-1, 0, 1}, {0, -1, 1}, {0, 1, 2}, {0, 1, -1},
            {Due.HIGH, 0, 0}, {0, Due.LOW, 0}, {0, 1, Due.HIGH}};
        for (int[] b : bad) {
            due("friends " + b[0] + " " + b[1] + " " + b[2], x.friends(b[0], b[1], b[2]), BAD);
        }
        due("refused calls change nothing", Due.look(x).equals(before) ? 1 : 0, 1);
        due("were", x.friends(2, 0, 0), 1);
        due("were not", x.friends(0, 2, 0), 0);
        due("friends of 0", x.told(0, 4), 0);
        due("friends of 2", x.told(2, 4), 0);
    }

    private static void rule() {
        HalfFriends x = new HalfFriends();
        int[] most = {9, 2, 100};
        for (int what = 0; what < 3; what++) {
            due("rule " + what + " was", x.rule(what, most[what]), 0);
            due("rule " + what + " above", x.rule(what, most[what] + 1), BAD);
            due("rule " + what + " below", x.rule(what, -1), BAD);
            due("rule " + what + " is", x.count(2 + what), most[what]);
            due("rule " + what + " was", x.rule(what, 1), most[what]);
            due("rule " + what + " was", x.rule(what, 1), 1);
        }
        due("rule 3", x.rule(3, 0), BAD);
        for (int wild : Due.WILD) {
            due("rule " + wild, x.rule(wild, 0), BAD);
            due("rule to " + wild, x.rule(0, wild), BAD);
            due("rule to " + wild, x.rule(1, wild), BAD);
            due("rule to " + wild, x.rule(2, wild), BAD);
        }
        due("rules stay", x.count(2) + x.count(3) + x.count(4), 3);
    }

    private static void deal() {
        HalfFriends x = new HalfFriends();
        int z = 12345;
        x.seed(z);
        x.person(0, 0, 0);
        due("four come", x.deal(4), 4);
        for (int one = 1; one < 5; one++) {
            int[] by = {6, 2, 30};
            for (int what = 0; what < 3; what++) {
                z = z * 1103515245 + 12345;
                due("drawn " + one + " " + what, x.told(one, what), (z >>> 8) % by[what]);
            }
            due("purse of one that was drawn", x.told(one, 3), 0);
            due("friends of one that was drawn", x.told(one, 4), 0);
        }
        due("z", x.count(9), z);
        due("one comes", new HalfFriends().deal(1), 1);
        due("ten come", new HalfFriends().deal(10), 10);
        due("deal 0", x.deal(0), BAD);
        due("deal 11", x.deal(11), BAD);
        for (int wild : Due.WILD) {
            due("deal " + wild, x.deal(wild), BAD);
        }
        due("z stays", x.count(9), z);
        due("there is room for five", x.deal(10), 5);
        for (int k = 0; k < 15; k++) {
            z = z * 1103515245 + 12345;
        }
        due("no draws for others", x.count(9), z);
        due("none come", x.deal(10), 0);
        due("no draws", x.count(9), z);
    }

    private static void seed() {
        HalfFriends x = new HalfFriends();
        due("z was", x.seed(Due.LOW), 1);
        due("z was", x.seed(Due.HIGH), Due.LOW);
        due("z was", x.seed(0), Due.HIGH);
        due("z is", x.count(9), 0);
    }
}

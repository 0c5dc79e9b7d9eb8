/** Promises 38 to 42: rows, images. */
public final class ImagesTest {
    private static final int BAD = Due.BAD, NO = Due.NO, FULL = Due.FULL, NONE = Due.NONE;

    public static void main(String[] args) {
        tell();
        check();
        checkOfThirty();
        checkAtTheLastYear();
        checkByTheImage();
        keepAndBack();
        whatAnImageLeaves();
        textsOfAnImage();
        count();
        Due.end();
    }

    private static void due(String call, long got, long want) {
        Due.due(call, got, want);
    }

    private static void tell() {
        HalfFriends x = new HalfFriends();
        for (int k = 1; k <= 60; k++) {
            due("tell " + k, x.tell(Due.LOW + k), k);
        }
        due("61", x.tell(1), FULL);
        due("60 wait", x.count(7), 60);
        due("no IMAGE", x.check(1), NO);
        due("none wait", x.count(7), 0);
        due("the first again", x.tell(1), 1);
    }

    private static int told(HalfFriends x, int n, int... row) {
        for (int v : row) {
            x.tell(v);
        }
        int answer = x.check(n);
        due("none wait then", x.count(7), 0);
        return answer;
    }

    /** Two friends, both for, by KIND 0: each YEAR brings 6, and minds stay. */
    private static void check() {
        HalfFriends x = Due.ring(0, 1, 1);
        due("no IMAGE", told(x, 1, 3, 6), NO);
        due("BAD stands ahead of NO", told(x, 0, 3, 6), BAD);
        x.keep();
        due("one YEAR", told(x, 1, 3, 6), 0);
        due("two YEARS", told(x, 2, 3, 6, 3, 12), 0);
        due("none told", told(x, 1), 1);
        due("one is missing", told(x, 1, 3), 2);
        due("one too many", told(x, 1, 3, 6, 3), 3);
        due("two too many", told(x, 1, 3, 6, 3, 12), 3);
        due("the first is not", told(x, 1, 2, 6), 1);
        due("the second is not", told(x, 1, 3, 7), 2);
        due("the third is not", told(x, 2, 3, 6, 1, 12), 3);
        due("the last is not", told(x, 2, 3, 6, 3, 11), 4);
        due("the third is missing", told(x, 2, 3, 6), 3);
        due("the first that is not, of several", told(x, 2, 3, 5, 9), 2);
        due("31", told(x, 31, 3, 6), BAD);
        for (int wild : Due.WILD) {
            due("check " + wild, told(x, wild, 3, 6), BAD);
        }
        due("nothing came of it", x.count(1) + x.town(1), 0);
        due("z stays", x.count(9), 1);
    }

    private static void checkOfThirty() {
        HalfFriends x = Due.ring(0, 1, 1, 1, 1);
        x.rule(2, 40);
        x.rule(1, 2);
        x.keep();
        int[] row = new int[60];
        for (int k = 0; k < 30; k++) {
            x.years(1);
            row[2 * k] = x.town(3);
            row[2 * k + 1] = x.town(1);
        }
        due("thirty YEARS", told(x, 30, row), 0);
        row[59]++;
        due("the last is not", told(x, 30, row), 60);
        due("one too many", told(x, 29, row), 59);
        row[20] ^= 1;
        due("place 20", told(x, 30, row), 21);
        due("THE YEAR stays", x.count(1), 30);
    }

    private static void checkAtTheLastYear() {
        HalfFriends x = Due.ring(0, 1, 1);
        for (int k = 0; k < 99; k++) {
            x.years(100);
        }
        x.years(98);
        int chest = 9998 * 6;
        x.keep();
        due("one YEAR alone is left", told(x, 30, 3, chest + 6), 0);
        due("one too many", told(x, 30, 3, chest + 6, 3, chest + 12), 3);
        due("one is missing", told(x, 30, 3), 2);
        x.years(1);
        x.keep();
        due("no YEAR is left", told(x, 30), 0);
        due("no YEAR is left", told(x, 1, 3), 1);
    }

    private static void checkByTheImage() {
        HalfFriends x = Due.ring(0, 1, 1);
        Due.text(x, "dues 50");
        x.seed(77);
        x.keep();
        Due.text(x, "dues 70");
        x.years(3);
        x.set(0, 1, 0);
        x.seed(5);
        x.person(5, 1, 1);
        due("by THE IMAGE", told(x, 2, 3, 100, 3, 200), 0);
        due("now is otherwise", x.behind(1, 1), 420 + 140);
        x.keep();
        due("by the new IMAGE", told(x, 1, 6, 420 + 140), 0);
    }

    private static void keepAndBack() {
        HalfFriends x = new HalfFriends();
        due("no IMAGE", x.back(), NO);
        due("keep of nobody", x.keep(), 0);
        x.seed(9);
        x.deal(6);
        x.rule(0, 1);
        x.rule(1, 2);
        x.rule(2, 50);
        x.friends(0, 5, 1);
        x.friends(3, 5, 1);
        x.set(2, 3, 44);
        x.years(20);
        due("keep", x.keep(), 6);
        String kept = Due.look(x);
        x.years(30);
        x.deal(4);
        x.rule(0, 2);
        x.rule(1, 0);
        x.rule(2, 0);
        x.friends(0, 5, 0);
        x.friends(0, 9, 1);
        x.set(2, 3, -44);
        x.turns(0, (x.told(0, 0) + 1) % 6);
        x.set(1, 1, 1 - x.told(1, 1));
        x.set(1, 2, 99);
        x.seed(1);
        due("otherwise", Due.look(x).equals(kept) ? 1 : 0, 0);
        due("back", x.back(), 6);
        due("as it was", Due.look(x).equals(kept) ? 1 : 0, 1);
        x.years(7);
        due("back again", x.back(), 6);
        due("as it was", Due.look(x).equals(kept) ? 1 : 0, 1);
        x.person(5, 1, 9);
        x.friends(6, 1, 1);
        x.set(6, 3, 88);
        due("back", x.back(), 6);
        due("as it was", Due.look(x).equals(kept) ? 1 : 0, 1);
        x.person(0, 0, 1);
        due("a new one has no friends", x.told(6, 4), 0);
        due("a new one has an empty purse", x.told(6, 3), 0);
        due("a new one is against", x.told(6, 1), 0);
        due("keep", x.keep(), 7);
        x.back();
        due("the new IMAGE", x.count(0), 7);
    }

    private static void whatAnImageLeaves() {
        HalfFriends x = new HalfFriends();
        x.sheet(0, 0, 2);
        x.lay(0, 3, 5);
        x.tell(4);
        x.feed(1, 2, 3);
        x.keep();
        x.mark(0, 0, 8);
        x.sheet(1, 1, 1);
        x.lay(0, 3, 6);
        x.tell(4);
        x.feed(1, 2, 3);
        x.back();
        x.lay(1, 2, 0);
        due("SHEETS stay", x.item(1, 0), 8);
        due("SHEETS stay", x.reads(1), 0);
        due("SLOTS stay", x.rest(0, 9), 6);
        due("numbers that wait stay", x.count(7), 2);
        due("THE TAPE stays", x.count(8), 24);
    }

    private static void textsOfAnImage() {
        HalfFriends x = new HalfFriends();
        Due.text(x, "fee 11");
        x.keep();
        Due.text(x, "fee 22");
        Due.text(x, "dues 33");
        due("fee", x.fee(), 22);
        x.back();
        due("TEXTS", x.count(6), 1);
        due("fee", x.fee(), 11);
        due("the one that counts", x.why(1), 0);
        due("no dues", x.why(0), NONE);
        due("no TEXT 1", x.textTold(1, 0), BAD);
        due("TEXT 1 anew", Due.text(x, "fine 5+5"), 1);
        due("KEY", x.textTold(1, 0), 2);
        due("NUMBERS", x.textTold(1, 1), 2);
        due("fee", x.fee(), 11);
        x.back();
        due("TEXTS", x.count(6), 1);
        due("no fine", x.why(2), NONE);
    }

    private static void count() {
        HalfFriends x = new HalfFriends();
        x.person(0, 1, 0);
        x.person(0, 0, 0);
        x.person(0, 1, 0);
        x.years(5);
        x.rule(0, 4);
        x.rule(1, 2);
        x.rule(2, 33);
        Due.text(x, "fee 1");
        x.tell(1);
        x.tell(1);
        x.feed(1, 1, 1);
        x.seed(-8);
        int[] want = {3, 5, 4, 2, 33, 2, 1, 2, 12, -8};
        for (int what = 0; what < 10; what++) {
            due("count " + what, x.count(what), want[what]);
        }
        due("count 10", x.count(10), BAD);
        for (int wild : Due.WILD) {
            due("count " + wild, x.count(wild), BAD);
        }
    }
}

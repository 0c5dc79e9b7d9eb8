/** Promises 29 to 37: sheets, slots. */
public final class SheetsTest {
    private static final int BAD = Due.BAD, NO = Due.NO, NONE = Due.NONE;
    private static final int NOTHING = Due.NOTHING, KIND = Due.KIND, INDEX = Due.INDEX, SIZE = Due.SIZE;

    public static void main(String[] args) {
        sheet();
        markOfShorts();
        markOfFloats();
        pour();
        reads();
        copy();
        copyRefused();
        lay();
        layIsForGood();
        ask();
        item();
        rest();
        Due.end();
    }

    private static void due(String call, long got, long want) {
        Due.due(call, got, want);
    }

    /** A place of a SHEET, by way of slot 4. */
    private static int at(HalfFriends x, int sheet, int place) {
        x.lay(4, 2, sheet);
        return x.item(4, place);
    }

    private static void sheet() {
        HalfFriends x = new HalfFriends();
        due("sheet", x.sheet(3, 0, 24), 24);
        x.mark(3, 23, 5);
        due("the last place", at(x, 3, 23), 5);
        due("BAD n", x.sheet(3, 0, 25), BAD);
        due("BAD n", x.sheet(3, 1, Due.HIGH), BAD);
        due("SIZE", x.sheet(3, 0, -1), SIZE);
        due("SIZE", x.sheet(3, 1, Due.LOW), SIZE);
        due("BAD stands ahead of SIZE", x.sheet(4, 0, -1), BAD);
        due("BAD stands ahead of SIZE", x.sheet(3, 2, -1), BAD);
        due("BAD sort", x.sheet(3, -2, 3), BAD);
        for (int wild : Due.WILD) {
            due("sheet " + wild, x.sheet(wild, 0, 3), BAD);
            if (wild != -1) {
                due("sort " + wild, x.sheet(3, wild, 3), BAD);
            }
        }
        due("refused calls change nothing", at(x, 3, 23), 5);
        due("made anew", x.sheet(3, 0, 24), 24);
        due("all 0", at(x, 3, 23), 0);
        due("no places", x.sheet(3, 1, 0), 0);
        due("no place", x.mark(3, 0, 1), INDEX);
        due("MISSING, n any", x.sheet(3, -1, Due.LOW), 0);
        due("MISSING, n any", x.sheet(3, -1, Due.HIGH), 0);
        due("MISSING", x.mark(3, 0, 1), NOTHING);
        due("sheet -1", x.sheet(-1, -1, 0), BAD);
        x.sheet(0, 0, 2);
        x.mark(0, 1, 9);
        x.sheet(0, 0, 1);
        x.sheet(0, 0, 2);
        due("all 0 again", at(x, 0, 1), 0);
        x.mark(0, 0, 9);
        x.sheet(0, 1, 2);
        due("all 0 again", at(x, 0, 0), 0);
    }

    private static void markOfShorts() {
        HalfFriends x = new HalfFriends();
        x.sheet(0, 0, 3);
        int[][] rows = {{5, 5}, {-5, -5}, {32767, 32767}, {32768, -32768}, {-32769, 32767}, {65536, 0}, {65535, -1},
            {Due.HIGH, -1}, {Due.LOW, 0}, {Due.BAD, (short) Due.BAD}};
        for (int[] row : rows) {
            due("mark " + row[0], x.mark(0, 2, row[0]), 1);
            due("its lowest 16 bits", at(x, 0, 2), row[1]);
        }
        due("others stay", at(x, 0, 1), 0);
        due("NONE in a row of shorts", x.mark(0, 1, NONE), KIND);
        due("INDEX stands ahead of KIND", x.mark(0, 3, NONE), INDEX);
        due("INDEX", x.mark(0, -1, 0), INDEX);
        due("MISSING", x.mark(1, 0, 0), NOTHING);
        for (int wild : Due.WILD) {
            due("mark sheet " + wild, x.mark(wild, 0, 0), BAD);
            due("mark place " + wild, x.mark(0, wild, 0), INDEX);
        }
        due("mark sheet 4", x.mark(4, 9, NONE), BAD);
        due("it stays", at(x, 0, 1), 0);
    }

    private static void markOfFloats() {
        HalfFriends x = new HalfFriends();
        x.sheet(2, 1, 3);
        int[] good = {99999, -99999, 0, 40000, -40000};
        for (int v : good) {
            due("mark " + v, x.mark(2, 1, v), 1);
            due("the float", at(x, 2, 1), v);
        }
        due("mark 7", x.mark(2, 1, 7), 1);
        int[] bad = {100000, -100000, Due.HIGH, Due.LOW, Due.BAD, NONE + 1, NONE - 1};
        for (int v : bad) {
            due("mark " + v, x.mark(2, 1, v), BAD);
            due("INDEX stands ahead of BAD", x.mark(2, 3, v), INDEX);
        }
        due("it stays", at(x, 2, 1), 7);
        due("NO NUMBER", x.mark(2, 1, NONE), 1);
        due("NO NUMBER", at(x, 2, 1), KIND);
        due("a number again", x.mark(2, 1, 3), 1);
        due("a number again", at(x, 2, 1), 3);
    }

    private static void pour() {
        HalfFriends x = new HalfFriends();
        for (int k = 0; k < 5; k++) {
            x.person(k == 1 ? 5 : 0, k & 1, 0);
        }
        x.sheet(0, 1, 4);
        x.mark(0, 0, 99);
        x.mark(0, 1, -99);
        x.mark(0, 2, NONE);
        x.mark(0, 3, 1);
        due("0 and 1 are otherwise", x.pour(0), 2);
        due("who is for", x.town(3), 9);
        due("none is otherwise", x.pour(0), 0);
        due("CHANGES are of YEARS", x.town(2), 0);
        x.mark(0, 2, 1);
        due("2 is otherwise", x.pour(0), 1);
        x.sheet(1, 0, 24);
        due("all are against", x.pour(1), 3);
        due("who is for", x.town(3), 0);
        x.mark(1, 4, 1);
        x.mark(1, 5, 1);
        due("beyond all PEOPLE is nobody", x.pour(1), 1);
        due("who is for", x.town(3), 16);
        due("MISSING", x.pour(2), NOTHING);
        due("pour 4", x.pour(4), BAD);
        for (int wild : Due.WILD) {
            due("pour " + wild, x.pour(wild), BAD);
        }
        due("who is for", x.town(3), 16);
    }

    private static void reads() {
        HalfFriends x = Due.ring(0, 1, 1, 1, 0);
        x.sheet(0, 1, 4);
        int[] off = {0, 2, 0, 2};
        for (int k = 0; k < 4; k++) {
            due("the first that is not", x.reads(0), k < 2 ? 1 : k < 4 ? 3 : NONE);
            x.mark(0, k, off[k]);
        }
        due("all are", x.reads(0), NONE);
        x.mark(0, 2, 1);
        x.mark(0, 3, 9);
        due("the first", x.reads(0), 2);
        x.mark(0, 2, NONE);
        due("of numbers alone", x.reads(0), 3);
        x.mark(0, 3, NONE);
        due("of numbers alone", x.reads(0), NONE);
        x.sheet(1, 0, 24);
        x.mark(1, 1, 2);
        x.mark(1, 3, 2);
        due("the first that is nobody", x.reads(1), 4);
        x.sheet(1, 0, 0);
        due("no places", x.reads(1), NONE);
        due("MISSING", x.reads(2), NOTHING);
        due("reads 4", x.reads(4), BAD);
        for (int wild : Due.WILD) {
            due("reads " + wild, x.reads(wild), BAD);
        }
    }

    private static HalfFriends counted() {
        HalfFriends x = new HalfFriends();
        x.sheet(0, 0, 6);
        x.sheet(1, 0, 4);
        x.sheet(2, 1, 6);
        for (int k = 0; k < 6; k++) {
            x.mark(0, k, k + 1);
            x.mark(2, k, 10 * k);
        }
        return x;
    }

    private static void places(HalfFriends x, int sheet, int... want) {
        for (int k = 0; k < want.length; k++) {
            due("sheet " + sheet + " place " + k, at(x, sheet, k), want[k]);
        }
        due("sheet " + sheet + " ends", at(x, sheet, want.length), INDEX);
    }

    private static void copy() {
        HalfFriends x = counted();
        due("copy", x.copy(0, 2, 1, 1, 3), 3);
        places(x, 1, 0, 3, 4, 5);
        places(x, 0, 1, 2, 3, 4, 5, 6);
        due("onward in itself", x.copy(0, 0, 0, 2, 4), 4);
        places(x, 0, 1, 2, 1, 2, 3, 4);
        due("back in itself", x.copy(0, 2, 0, 1, 4), 4);
        places(x, 0, 1, 1, 2, 3, 4, 4);
        due("all", x.copy(0, 0, 0, 0, 6), 6);
        due("none, at the end", x.copy(0, 6, 1, 4, 0), 0);
        x.mark(2, 3, NONE);
        x.sheet(3, 1, 24);
        due("floats, NO NUMBER too", x.copy(2, 2, 3, 21, 3), 3);
        due("place 21", at(x, 3, 21), 20);
        due("place 22", at(x, 3, 22), KIND);
        due("place 23", at(x, 3, 23), 40);
    }

    private static void copyRefused() {
        HalfFriends x = counted();
        int[][] index = {{0, 4, 1, 0, 3}, {0, 0, 1, 2, 3}, {0, -1, 1, 0, 1}, {0, 0, 1, -1, 1}, {0, 7, 1, 0, 0},
            {0, 0, 1, 5, 0}, {0, 0, 1, 0, -1}, {0, 3, 1, 0, -1}, {0, 0, 1, 0, 5}, {0, 0, 1, 0, Due.HIGH},
            {0, Due.HIGH, 1, 0, Due.HIGH}, {0, 0, 1, Due.HIGH, 1}, {0, Due.LOW, 1, 0, 1}, {0, 0, 1, 0, Due.LOW},
            {0, Due.HIGH, 1, 0, 1}, {0, 1, 1, 1, Due.LOW}, {0, Due.LOW, 1, Due.LOW, Due.LOW}};
        for (int[] c : index) {
            due("copy " + c[0] + " " + c[1] + " " + c[2] + " " + c[3] + " " + c[4], x.copy(c[0], c[1], c[2], c[3], c[4]), INDEX);
        }
        due("KIND", x.copy(0, 0, 2, 0, 1), KIND);
        due("KIND stands ahead of INDEX", x.copy(2, 0, 0, 0, 99), KIND);
        due("NOTHING", x.copy(0, 0, 3, 0, 1), NOTHING);
        due("NOTHING", x.copy(3, 0, 0, 0, 1), NOTHING);
        due("NOTHING", x.copy(3, 9, 3, 9, -9), NOTHING);
        due("BAD stands ahead of NOTHING", x.copy(3, 0, 4, 0, 1), BAD);
        due("BAD", x.copy(4, 0, 0, 0, 1), BAD);
        for (int wild : Due.WILD) {
            due("from " + wild, x.copy(wild, 0, 0, 0, 0), BAD);
            due("to " + wild, x.copy(0, 0, wild, 0, 0), BAD);
        }
        places(x, 0, 1, 2, 3, 4, 5, 6);
        places(x, 1, 0, 0, 0, 0);
        places(x, 2, 0, 10, 20, 30, 40, 50);
    }

    private static void lay() {
        HalfFriends x = new HalfFriends();
        x.person(0, 0, 8);
        x.sheet(1, 0, 2);
        due("held nothing", x.lay(4, 3, Due.LOW), 0);
        due("held a number", x.lay(4, 1, 0), 3);
        due("held one", x.lay(4, 2, 1), 1);
        due("held a SHEET", x.lay(4, 0, Due.HIGH), 2);
        due("held nothing", x.lay(4, 0, -1), 0);
        due("held nothing", x.lay(0, 3, 70), 0);
        due("thing 4", x.lay(0, 4, 0), BAD);
        due("slot 5", x.lay(5, 3, 0), BAD);
        due("nobody", x.lay(0, 1, 1), BAD);
        due("nobody", x.lay(0, 1, -1), BAD);
        due("no SHEET", x.lay(0, 2, 4), BAD);
        due("no SHEET", x.lay(0, 2, -1), BAD);
        due("MISSING", x.lay(0, 2, 0), NOTHING);
        due("BAD stands ahead of NOTHING", x.lay(5, 2, 0), BAD);
        for (int wild : Due.WILD) {
            due("slot " + wild, x.lay(wild, 3, 0), BAD);
            due("thing " + wild, x.lay(0, wild, 0), BAD);
            due("one " + wild, x.lay(0, 1, wild), BAD);
            due("sheet " + wild, x.lay(0, 2, wild), BAD);
        }
        due("refused calls change nothing", x.rest(0, 1000), 70);
        due("held a number", x.lay(0, 3, 71), 3);
    }

    private static void layIsForGood() {
        HalfFriends x = new HalfFriends();
        x.person(3, 0, 8);
        x.sheet(1, 1, 2);
        x.mark(1, 1, 50);
        x.lay(0, 1, 0);
        x.lay(1, 2, 1);
        x.turns(0, 0);
        x.set(0, 2, 90);
        x.mark(1, 1, 60);
        due("one as it was", x.ask(0, 3), 34);
        due("the row as it was", x.item(1, 1), 50);
        x.sheet(1, -1, 0);
        due("the row as it was", x.item(1, 1), 50);
        x.lay(2, 1, 0);
        due("one as it is", x.ask(2, 0), 90);
        due("no ODD one now", x.ask(2, 3), KIND);
        x.keep();
        x.lay(2, 3, 5);
        x.mark(1, 0, 1);
        x.back();
        due("back leaves SLOTS", x.rest(2, 9), 5);
        HalfFriends y = new HalfFriends();
        y.keep();
        y.person(1, 1, 1);
        y.lay(0, 1, 0);
        y.back();
        due("one that is no more", y.ask(0, 1), 10);
    }

    private static void ask() {
        HalfFriends x = new HalfFriends();
        String[] fits = {"0", "10", "20", "310", "420", "50"};
        int[] worth = {40, 49, 59, 98, 53, 2};
        for (int kind = 0; kind < 6; kind++) {
            x.person(kind, 0, 40);
            x.lay(3, 1, kind);
            for (int as = 0; as < 6; as++) {
                boolean is = fits[kind].indexOf('0' + as) >= 0;
                due("KIND " + kind + " asked as " + as, x.ask(3, as), is ? worth[kind] : KIND);
            }
        }
        x.lay(1, 3, 5);
        x.sheet(0, 0, 1);
        x.lay(2, 2, 0);
        due("a number", x.ask(1, 0), KIND);
        due("a SHEET", x.ask(2, 0), KIND);
        due("nothing", x.ask(0, 0), NOTHING);
        due("BAD stands ahead of NOTHING", x.ask(0, 6), BAD);
        for (int wild : Due.WILD) {
            due("slot " + wild, x.ask(wild, 0), BAD);
            due("kind " + wild, x.ask(3, wild), BAD);
        }
        due("slot 5", x.ask(5, 0), BAD);
    }

    private static void item() {
        HalfFriends x = new HalfFriends();
        x.person(0, 0, 0);
        x.sheet(0, 1, 2);
        x.mark(0, 0, -77);
        x.mark(0, 1, NONE);
        x.lay(0, 2, 0);
        x.lay(1, 1, 0);
        x.lay(2, 3, 0);
        due("a place", x.item(0, 0), -77);
        due("NO NUMBER", x.item(0, 1), KIND);
        due("INDEX", x.item(0, 2), INDEX);
        due("one", x.item(1, 0), KIND);
        due("KIND stands ahead of INDEX", x.item(2, 99), KIND);
        due("nothing", x.item(3, 0), NOTHING);
        due("slot 5", x.item(5, 0), BAD);
        for (int wild : Due.WILD) {
            due("slot " + wild, x.item(wild, 0), BAD);
            due("place " + wild, x.item(0, wild), INDEX);
        }
    }

    private static void rest() {
        HalfFriends x = new HalfFriends();
        x.person(0, 0, 0);
        int[][] rows = {{17, 5, 2}, {-17, 5, -2}, {17, -5, 2}, {-17, -5, -2}, {17, 1, 0}, {17, 99, 17},
            {Due.LOW, -1, 0}, {Due.LOW, Due.LOW, 0}, {Due.LOW, 10, -8}, {Due.HIGH, Due.LOW, Due.HIGH}};
        for (int[] row : rows) {
            x.lay(0, 3, row[0]);
            due("rest of " + row[0] + " by " + row[1], x.rest(0, row[1]), row[2]);
        }
        due("n is 0", x.rest(0, 0), NO);
        x.lay(1, 1, 0);
        due("KIND stands ahead of NO", x.rest(1, 0), KIND);
        x.sheet(0, 0, 1);
        x.lay(1, 2, 0);
        due("a SHEET", x.rest(1, 2), KIND);
        due("NOTHING stands ahead of NO", x.rest(2, 0), NOTHING);
        due("slot 5", x.rest(5, 0), BAD);
        for (int wild : Due.WILD) {
            due("slot " + wild, x.rest(wild, 1), BAD);
        }
    }
}

/**
 * The boundary cases that the terms of SHEETS, SLOTS, THE IMAGE and promises 29 to 42 name, sentence by sentence. What is
 * refused stands in RefusedTest, too.
 */
public final class BoundsOfRowsTest {
    private static final int BAD = Due.BAD, NO = Due.NO, FULL = Due.FULL, NONE = Due.NONE;
    private static final int NOTHING = Due.NOTHING, KIND = Due.KIND, INDEX = Due.INDEX, SIZE = Due.SIZE;

    public static void main(String[] args) {
        noneToTwentyFourPlaces();
        missingAtFirstAndAgain();
        all0();
        lowest16Bits();
        floatsToTheEnds();
        noNumber();
        aboveNothing();
        pourOfUnlikeLengths();
        readsTheFirst();
        readsOfPlacesThatAreNobody();
        copyOfNoneAndOfAll();
        copyWithinOne();
        laySlotsAndThings();
        asItIsThen();
        askByItsOwnKind();
        itemToTheEnds();
        restOfTheEnds();
        sixtyWait();
        checkFromOneToThirty();
        oneMissingOneTooMany();
        fewerAtTheLastYear();
        noneWaitThen();
        keepAndBackAgain();
        whatAnImageKeeps();
        whatAnImageLeaves();
        countOfAll();
        Due.end();
    }

    private static Script ten(int kind, int mind, int price) {
        Script s = new Script();
        for (int k = 0; k < 10; k++) {
            s.go("person " + kind + " " + mind + " " + price);
        }
        return s;
    }

    /** The places of a SHEET, by way of SLOT 4; behind them there is no place. */
    private static Script places(Script s, int sheet, int... want) {
        s.go("lay 4 2 " + sheet);
        for (int k = 0; k < want.length; k++) {
            s.then("item 4 " + k, want[k]);
        }
        return s.then("item 4 " + want.length, INDEX).then("item 4 -1", INDEX);
    }

    private static Script marked(Script s, int sheet, int... values) {
        for (int k = 0; k < values.length; k++) {
            s.go("mark " + sheet + " " + k + " " + values[k]);
        }
        return s;
    }

    // ---- sheets

    /** "SHEETS 0 .. 3 are rows of shorts (0) or floats (1), with 0 to 24 places": n. */
    private static void noneToTwentyFourPlaces() {
        int[] sizes = {0, 1, 23, 24};
        for (int sheet = 0; sheet < 4; sheet++) {
            for (int sort = 0; sort < 2; sort++) {
                for (int n : sizes) {
                    Script s = new Script().then("sheet " + sheet + " " + sort + " " + n, n);
                    s.then("mark " + sheet + " " + n + " 1", INDEX).then("mark " + sheet + " -1 1", INDEX);
                    s.then("mark " + sheet + " " + (n - 1) + " 1", n > 0 ? 1 : INDEX).then("mark " + sheet + " 0 2", n > 0 ? 1 : INDEX);
                    s.then("lay 0 2 " + sheet, 0).then("item 0 " + n, INDEX).then("item 0 0", n > 0 ? 2 : INDEX);
                    s.then("item 0 " + (n - 1), n > 1 ? 1 : n > 0 ? 2 : INDEX);
                    s.then("sheet " + sheet + " " + sort + " 25", BAD).then("sheet " + sheet + " " + sort + " -1", SIZE);
                    s.then("reads " + sheet, n > 0 ? 0 : NONE);
                }
            }
        }
    }

    /** "MISSING (at first)"; "sort -1: MISSING, n any: (0)". */
    private static void missingAtFirstAndAgain() {
        String[] any = {"0", "1", "24", "25", "-1", "LOW", "HIGH", "NONE"};
        for (int sheet = 0; sheet < 4; sheet++) {
            Script s = new Script();
            for (String n : any) {
                s.then("mark " + sheet + " 0 1", NOTHING).then("pour " + sheet, NOTHING).then("reads " + sheet, NOTHING)
                    .then("lied " + sheet + " 0", NOTHING).then("lay 0 2 " + sheet, NOTHING)
                    .then("copy " + sheet + " 0 " + sheet + " 0 0", NOTHING).then("sheet " + sheet + " -1 " + n, 0)
                    .then("reads " + sheet, NOTHING).then("sheet " + sheet + " 0 0", 0).then("reads " + sheet, NONE)
                    .then("sheet " + sheet + " -1 " + n, 0);
            }
        }
    }

    /** "A SHEET becomes a row of n places of a sort, all 0": whatever it was. */
    private static void all0() {
        Script s = Script.of("sheet 0 1 3", "mark 0 0 NONE", "mark 0 1 99999", "mark 0 2 -7", "sheet 1 0 2", "mark 1 0 5");
        places(s.then("sheet 0 1 3", 3), 0, 0, 0, 0);
        places(marked(s, 0, 4, NONE, 6).then("sheet 0 0 4", 4), 0, 0, 0, 0, 0);
        places(marked(s, 0, 4, 5, 6, 7).then("sheet 0 0 2", 2).then("sheet 0 0 4", 4), 0, 0, 0, 0, 0);
        places(marked(s, 0, 4, 5, 6, 7).then("sheet 0 -1 4", 0).then("sheet 0 1 2", 2), 0, 0, 0);
        places(s, 1, 5, 0);
    }

    /** "Of shorts its lowest 16 bits". */
    private static void lowest16Bits() {
        String[] values = {"0", "1", "-1", "32767", "32768", "32769", "-32768", "-32769", "65535", "65536", "65537", "-65536",
            "-65537", "99999", "100000", "-100000", "98303", "98304", "HIGH", "LOW", "" + (NONE - 1), "" + (NONE + 1), "" + BAD};
        int[] kept = {0, 1, -1, 32767, -32768, -32767, -32768, 32767, -1, 0, 1, 0, -1, -31073, -31072, 31072, 32767, -32768, -1, 0,
            13818, 13820, 13823};
        for (int k = 0; k < values.length; k++) {
            Script s = Script.of("sheet 3 0 24").then("mark 3 23 " + values[k], 1).then("lay 0 2 3", 0).then("item 0 23", kept[k]);
            s.then("item 0 22", 0).then("mark 3 0 " + values[k], 1).then("lay 0 2 3", 2).then("item 0 0", kept[k]);
        }
        Script.of("sheet 0 0 1", "mark 0 0 7").then("mark 0 0 NONE", KIND).then("lay 0 2 0", 0).then("item 0 0", 7);
    }

    /** "Of floats v, -99999 .. 99999". */
    private static void floatsToTheEnds() {
        int[] values = {0, 1, -1, 32768, -32769, 65536, 99998, 99999, -99998, -99999};
        for (int v : values) {
            Script.of("sheet 0 1 24").then("mark 0 23 " + v, 1).then("lay 0 2 0", 0).then("item 0 23", v).then("item 0 0", 0)
                .then("mark 0 23 100000", BAD).then("mark 0 23 -100000", BAD).then("mark 0 23 HIGH", BAD).then("mark 0 23 LOW", BAD)
                .then("lay 0 2 0", 2).then("item 0 23", v);
        }
    }

    /** "A place of floats may be NO NUMBER": it is no number, but a place. */
    private static void noNumber() {
        Script s = Script.of("person 0 1 0", "sheet 0 1 2").then("reads 0", 1).then("mark 0 1 NONE", 1).then("reads 0", NONE);
        s.then("lied 0 1", 0).then("mark 0 0 5", 1).then("lied 0 1", 5).then("mark 0 0 NONE", 1).then("lied 0 1", 0);
        s.then("reads 0", NONE).then("pour 0", 0).then("count 5", 1).then("lay 0 2 0", 0).then("item 0 0", KIND)
            .then("item 0 1", KIND).then("item 0 2", INDEX).then("mark 0 0 0", 1).then("lay 0 2 0", 2).then("item 0 0", 0)
            .then("item 0 1", KIND).then("pour 0", 1).then("count 5", 0);
    }

    /** "1, if it is above 0, else 0; NO NUMBER: they stay"; "how many are otherwise then". */
    private static void aboveNothing() {
        int[] values = {1, 0, -1, 2, 32767, -32768, 32768, 65536};
        int[] minds = {1, 0, 0, 1, 1, 0, 0, 0};
        for (int k = 0; k < values.length; k++) {
            for (int was = 0; was < 2; was++) {
                Script.of("person 5 " + was + " 0", "sheet 0 0 1", "mark 0 0 " + values[k]).then("pour 0", was == minds[k] ? 0 : 1)
                    .then("told 0 1", minds[k]).then("pour 0", 0).then("town 2", 0);
            }
        }
        for (int was = 0; was < 2; was++) {
            Script.of("person 0 " + was + " 0", "person 0 " + was + " 0", "person 0 " + was + " 0", "sheet 0 1 3", "mark 0 0 NONE",
                "mark 0 1 99999", "mark 0 2 -99999").then("pour 0", 1).then("told 0 1", was).then("told 1 1", 1).then("told 2 1", 0);
        }
    }

    /** "Beyond the SHEET: they stay"; and beyond all PEOPLE there is nobody. */
    private static void pourOfUnlikeLengths() {
        Script s = ten(0, 1, 0).go("sheet 0 0 24").then("pour 0", 10).then("town 3", 0).then("count 0", 10);
        s.go("mark 0 9 1", "mark 0 10 1", "mark 0 23 1").then("pour 0", 1).then("town 3", 512).then("pour 0", 0);
        s.go("sheet 0 0 0").then("pour 0", 0).then("town 3", 512).go("sheet 0 0 9", "mark 0 8 1").then("pour 0", 1).then("town 3", 768);
        s.go("sheet 3 1 10").then("pour 3", 2).then("town 3", 0).go("sheet 3 1 1", "mark 3 0 1").then("pour 3", 1).then("town 3", 1);
        Script.of("sheet 0 0 24", "mark 0 0 1").then("pour 0", 0).then("town 3", 0).then("count 5", 0).then("person 0 0 0", 0)
            .then("told 0 1", 0);
    }

    /** "The first place (of numbers alone) at which a SHEET is not OFF of that one"; "NONE: there is none". */
    private static void readsTheFirst() {
        Script s = ten(0, 1, 0).go("sheet 0 0 10").then("reads 0", NONE);
        for (int k = 1; k < 10; k++) {
            s.go("friends 0 " + k + " 1");
        }
        s.then("reads 0", 0).go("mark 0 0 9").then("reads 0", 1).go("mark 0 0 -9").then("reads 0", 0).go("mark 0 0 9");
        for (int k = 1; k < 10; k++) {
            s.then("reads 0", k).go("mark 0 " + k + " 1");
        }
        s.then("reads 0", NONE).go("mark 0 9 2").then("reads 0", 9).go("mark 0 0 8").then("reads 0", 0);
        s.go("sheet 1 1 10", "mark 1 0 NONE", "mark 1 1 1", "mark 1 2 NONE").then("reads 1", 3).go("mark 1 3 NONE").then("reads 1", 4);
        s.go("sheet 2 0 1", "mark 2 0 9").then("reads 2", NONE).go("sheet 2 0 0").then("reads 2", NONE);
    }

    /** "Of places that are nobody all numbers are not": 0, too. */
    private static void readsOfPlacesThatAreNobody() {
        Script.of("sheet 0 0 1").then("reads 0", 0).go("person 0 0 0").then("reads 0", NONE).go("sheet 0 0 2").then("reads 0", 1);
        Script s = ten(0, 1, 0).go("sheet 0 1 10").then("reads 0", NONE).go("sheet 0 1 11").then("reads 0", 10);
        s.go("mark 0 10 NONE").then("reads 0", NONE).go("sheet 0 1 24");
        for (int k = 10; k < 24; k++) {
            s.then("reads 0", k).go("mark 0 " + k + " NONE");
        }
        s.then("reads 0", NONE);
        Script.of("sheet 1 1 2", "mark 1 0 NONE").then("reads 1", 1).go("mark 1 1 NONE").then("reads 1", NONE);
    }

    private static Script counted() {
        Script s = Script.of("sheet 0 0 24", "sheet 1 0 24", "sheet 2 1 24", "sheet 3 1 24");
        for (int k = 0; k < 24; k++) {
            s.go("mark 0 " + k + " " + (k + 1), "mark 2 " + k + " " + (k == 5 ? NONE : 1000 * k));
        }
        return s;
    }

    private static int[] row(int... v) {
        int[] all = new int[24];
        System.arraycopy(v, 0, all, 24 - v.length, v.length);
        return all;
    }

    /** "So many places of a SHEET come to another one: many": none, also at the end, and all. */
    private static void copyOfNoneAndOfAll() {
        Script s = counted().then("copy 0 0 1 0 0", 0).then("copy 0 24 1 24 0", 0).then("copy 0 24 1 0 0", 0)
            .then("copy 0 25 1 0 0", INDEX).then("copy 0 0 1 25 0", INDEX).then("copy 0 -1 1 0 0", INDEX).then("copy 0 0 1 -1 0", INDEX)
            .then("copy 0 0 1 0 25", INDEX).then("copy 0 1 1 0 24", INDEX).then("copy 0 0 1 1 24", INDEX).then("copy 0 0 1 0 -1", INDEX);
        places(s, 1, row());
        places(s.then("copy 0 23 1 23 1", 1).then("copy 0 0 1 22 1", 1), 1, row(1, 24));
        int[] all = new int[24];
        for (int k = 0; k < 24; k++) {
            all[k] = k + 1;
        }
        places(s.then("copy 0 0 1 0 24", 24), 1, all);
        places(s, 0, all);
        Script t = counted().then("copy 2 0 3 0 24", 24).then("lay 4 2 3", 0).then("item 4 4", 4000).then("item 4 5", KIND)
            .then("item 4 23", 23000).then("copy 3 6 3 5 1", 1).then("lay 4 2 3", 2).then("item 4 5", 6000).then("item 4 6", 6000);
        t.then("copy 2 5 3 23 1", 1).then("lay 4 2 3", 2).then("item 4 23", KIND).then("copy 2 0 0 0 0", KIND);
        Script.of("sheet 0 0 0", "sheet 1 1 0", "sheet 2 0 3").then("copy 0 0 0 0 0", 0).then("copy 0 0 2 3 0", 0)
            .then("copy 0 0 2 0 1", INDEX).then("copy 2 0 0 0 1", INDEX).then("copy 0 1 2 0 0", INDEX).then("copy 0 0 1 0 0", KIND);
    }

    /** "(Or the same), as they were". */
    private static void copyWithinOne() {
        Script s = Script.of("sheet 1 0 5");
        places(marked(s, 1, 1, 2, 3, 4, 5).then("copy 1 0 1 1 4", 4), 1, 1, 1, 2, 3, 4);
        places(marked(s, 1, 1, 2, 3, 4, 5).then("copy 1 1 1 0 4", 4), 1, 2, 3, 4, 5, 5);
        places(marked(s, 1, 1, 2, 3, 4, 5).then("copy 1 0 1 2 3", 3), 1, 1, 2, 1, 2, 3);
        places(marked(s, 1, 1, 2, 3, 4, 5).then("copy 1 2 1 0 3", 3), 1, 3, 4, 5, 4, 5);
        places(marked(s, 1, 1, 2, 3, 4, 5).then("copy 1 0 1 0 5", 5).then("copy 1 0 1 4 1", 1), 1, 1, 2, 3, 4, 1);
        Script t = Script.of("sheet 0 1 3", "mark 0 0 NONE", "mark 0 1 6", "mark 0 2 7");
        places(t.then("copy 0 0 0 1 2", 2), 0, KIND, KIND, 6);
    }

    // ---- slots

    /** "SLOTS 0 .. 4"; "thing 0 nothing, 1 one of number k, 2 SHEET k, 3 the number k: what it held (0 .. 3)". */
    private static void laySlotsAndThings() {
        for (int slot = 0; slot < 5; slot++) {
            Script s = ten(0, 0, 9).go("sheet 0 0 1", "sheet 3 1 24");
            s.then("lay " + slot + " 0 LOW", 0).then("lay " + slot + " 0 HIGH", 0).then("lay " + slot + " 1 0", 0)
                .then("lay " + slot + " 1 9", 1).then("lay " + slot + " 2 0", 1).then("lay " + slot + " 2 3", 2)
                .then("lay " + slot + " 3 LOW", 2).then("rest " + slot + " 10", -8).then("lay " + slot + " 3 HIGH", 3)
                .then("rest " + slot + " 10", 7).then("lay " + slot + " 3 0", 3).then("rest " + slot + " 10", 0)
                .then("lay " + slot + " 3 NONE", 3).then("rest " + slot + " 10", -5).then("lay " + slot + " 0 -1", 3)
                .then("rest " + slot + " 10", NOTHING).then("ask " + slot + " 0", NOTHING).then("item " + slot + " 0", NOTHING);
            for (int other = 0; other < 5; other++) {
                s.then("lay " + other + " 3 " + other, 0);
            }
            for (int other = 0; other < 5; other++) {
                s.then("rest " + other + " 9", other);
            }
        }
    }

    /** "One of the PEOPLE (as it is then, for good), a SHEET (a row of its own, as it was then)". */
    private static void asItIsThen() {
        Script s = Script.of("person 3 1 99", "sheet 0 0 2", "mark 0 1 8", "sheet 1 1 2", "mark 1 0 NONE", "keep");
        s.go("lay 0 1 0", "lay 1 2 0", "lay 2 2 1", "lay 3 2 0");
        s.go("turns 0 2", "set 0 2 0", "mark 0 1 9", "mark 1 0 5", "copy 0 1 0 0 1");
        s.then("ask 0 3", 216).then("ask 0 2", KIND).then("item 1 1", 8).then("item 1 0", 0).then("item 2 0", KIND);
        s.go("sheet 0 1 24", "sheet 1 -1 0", "back", "turns 0 5", "years 1").then("ask 0 1", 216).then("item 1 1", 8)
            .then("item 1 2", INDEX).then("item 2 0", KIND).then("item 2 1", 0).then("item 2 2", INDEX).then("item 3 1", 8);
        s.then("lay 3 2 0", 2).then("item 3 23", 0).then("item 1 1", 8).then("lay 3 2 1", NOTHING).then("item 3 23", 0);
        new Script().go("keep", "person 1 1 1", "lay 0 1 0").then("back", 0).then("ask 0 0", 10).then("ask 0 1", 10)
            .then("lay 0 1 0", BAD).then("ask 0 1", 10).then("person 4 0 99", 0).then("ask 0 1", 10).then("ask 0 4", KIND);
    }

    /** "WORTH (by its own KIND) of the one that is in a SLOT, taken for one of a KIND (0 .. 5)". */
    private static void askByItsOwnKind() {
        String[] fits = {"0", "01", "02", "013", "024", "05"};
        int[] worth = {7, 16, 92, 32, 86, 2};
        for (int kind = 0; kind < 6; kind++) {
            Script s = Script.of("person " + kind + " 0 7", "lay 4 1 0").then("ask 4 -1", BAD).then("ask 4 6", BAD);
            for (int as = 0; as < 6; as++) {
                s.then("ask 4 " + as, fits[kind].contains("" + as) ? worth[kind] : KIND).then("ask 3 " + as, NOTHING);
            }
        }
        Script.of("person 4 0 99", "lay 0 1 0").then("ask 0 4", -6).then("ask 0 0", -6);
    }

    /** "A place of the SHEET in a SLOT": the first and the last one, of 24, of one, of none. */
    private static void itemToTheEnds() {
        Script s = Script.of("sheet 0 1 24", "mark 0 0 -99999", "mark 0 23 99999", "mark 0 22 NONE", "lay 0 2 0");
        s.then("item 0 0", -99999).then("item 0 23", 99999).then("item 0 22", KIND).then("item 0 24", INDEX).then("item 0 -1", INDEX);
        s.go("sheet 0 0 1", "mark 0 0 -32768", "lay 0 2 0").then("item 0 0", -32768).then("item 0 1", INDEX).then("item 0 23", INDEX);
        s.go("sheet 0 0 0", "lay 0 2 0").then("item 0 0", INDEX).then("item 0 -1", INDEX).then("item 0 LOW", INDEX);
    }

    /** "The rest of the number in a SLOT by n"; "NO: n is 0". */
    private static void restOfTheEnds() {
        String[] numbers = {"LOW", "LOW", "LOW", "LOW", "HIGH", "HIGH", "HIGH", "7", "-7", "7", "-7", "0", "5", "-1"};
        String[] by = {"-1", "1", "LOW", "HIGH", "LOW", "HIGH", "-1", "3", "3", "-3", "-3", "LOW", "6", "HIGH"};
        int[] rest = {0, 0, 0, -1, Due.HIGH, 0, 0, 1, -1, 1, -1, 0, 5, -1};
        for (int k = 0; k < numbers.length; k++) {
            Script.of("lay 0 3 " + numbers[k]).then("rest 0 " + by[k], rest[k]).then("rest 0 0", NO).then("rest 0 " + by[k], rest[k]);
        }
        Script.of("lay 4 3 0").then("rest 4 0", NO).then("rest 4 1", 0);
    }

    // ---- rows, images

    /** "One more number waits: how many. FULL: 60 wait". */
    private static void sixtyWait() {
        Script s = new Script().then("count 7", 0).then("keep", 0);
        String[] values = {"0", "LOW", "HIGH", "NONE", "-1"};
        for (int k = 1; k <= 60; k++) {
            s.then("tell " + values[k % 5], k).then("count 7", k);
        }
        s.then("tell 0", FULL).then("tell LOW", FULL).then("count 7", 60).then("check 1", 1).then("count 7", 0).then("tell 5", 1);
    }

    /** "THE YEARS TOLD of n (1 .. 30), two by two: 0; else 1 and how many stand right ahead of the first that is not". */
    private static void checkFromOneToThirty() {
        int[] many = {1, 2, 29, 30};
        for (int n : many) {
            int[] wrong = {-1, 0, 1, 2 * n - 2, 2 * n - 1};
            for (int at : wrong) {
                Script s = Script.of("seed 8", "deal 5", "friends 0 1 1", "friends 2 3 1", "friends 1 4 1", "rule 1 2", "rule 2 60",
                    "keep");
                for (int k = 0; k < 2 * n; k++) {
                    int v = s.call("behind " + (k / 2 + 1) + (k % 2 == 0 ? " 3" : " 1"));
                    s.go("tell " + (k == at ? v + 1 : v));
                }
                s.then("count 7", 2 * n).then("check " + n, at < 0 ? 0 : at + 1).then("count 7", 0).then("count 1", 0);
            }
        }
    }

    private static void told(Script s, int n, int want, int... numbers) {
        for (int v : numbers) {
            s.go("tell " + v);
        }
        s.then("check " + n, want).then("count 7", 0);
    }

    /** "(Or is missing, or one too many)". */
    private static void oneMissingOneTooMany() {
        Script s = Script.of("person 0 1 0", "person 0 1 0", "friends 0 1 1", "keep", "years 5", "set 0 1 0");
        told(s, 1, 1);
        told(s, 1, 2, 3);
        told(s, 1, 0, 3, 6);
        told(s, 1, 3, 3, 6, 3);
        told(s, 1, 3, 3, 6, 3, 12);
        told(s, 2, 3, 3, 6);
        told(s, 2, 4, 3, 6, 3);
        told(s, 2, 0, 3, 6, 3, 12);
        told(s, 2, 5, 3, 6, 3, 12, 3);
        told(s, 1, 1, 2, 6, 3);
        told(s, 1, 2, 3, 5, 3);
        told(s, 1, 1, 2, 5, 1, 1);
        told(s, 2, 3, 3, 6, 2, 12, 7);
        told(s, 30, 5, 3, 6, 3, 12);
        told(s, 30, 1);
        told(s, 1, 1, 6, 3);
        told(s, 1, 2, 3, -1000000005);
        Script full = Script.of("keep");
        for (int k = 0; k < 60; k++) {
            full.go("tell 0");
        }
        full.then("check 29", 59).then("count 7", 0);
        for (int k = 0; k < 60; k++) {
            full.go("tell 0");
        }
        full.then("check 30", 0).go("tell 0").then("check 30", 2);
        for (int k = 0; k < 59; k++) {
            full.go("tell 0");
        }
        full.then("check 30", 60).then("check 30", 1);
    }

    /** "Fewer, if THE YEAR would be above 9999": by THE YEAR of THE IMAGE. */
    private static void fewerAtTheLastYear() {
        Script s = Script.of("person 0 1 0", "person 0 1 0", "friends 0 1 1");
        for (int k = 0; k < 99; k++) {
            s.go("years 100");
        }
        int chest = 6 * 9900;
        s.go("years 97", "keep").then("count 1", 9997);
        chest += 6 * 97;
        told(s, 1, 0, 3, chest + 6);
        told(s, 2, 0, 3, chest + 6, 3, chest + 12);
        told(s, 3, 0, 3, chest + 6, 3, chest + 12);
        told(s, 30, 0, 3, chest + 6, 3, chest + 12);
        told(s, 30, 5, 3, chest + 6, 3, chest + 12, 3, chest + 18);
        told(s, 3, 5, 3, chest + 6, 3, chest + 12, 3);
        told(s, 30, 4, 3, chest + 6, 3);
        told(s, 1, 3, 3, chest + 6, 3, chest + 12);
        s.go("years 2").then("count 1", 9999);
        told(s, 30, 0, 3, chest + 6, 3, chest + 12);
        s.go("keep");
        told(s, 1, 0);
        told(s, 30, 0);
        told(s, 1, 1, 3, chest + 18);
        told(s, 1, 1, 3);
    }

    /** "The numbers that wait (none do then, whatever is answered)"; "NO: there is no IMAGE". */
    private static void noneWaitThen() {
        String[] bad = {"0", "31", "-1", "LOW", "HIGH"};
        for (String n : bad) {
            new Script().go("tell 1", "tell 2").then("check " + n, BAD).then("count 7", 0).then("tell 3", 1);
            new Script().go("keep", "tell 0", "tell 0").then("check " + n, BAD).then("count 7", 0).then("check 1", 1);
        }
        new Script().go("tell 0", "tell 0").then("check 1", NO).then("count 7", 0).go("keep").then("check 1", 1);
        new Script().go("keep", "tell 0", "tell 0").then("check 1", 0).then("count 7", 0).then("check 1", 1);
        new Script().go("keep", "tell 1", "tell 0").then("check 30", 1).then("count 7", 0).then("tell 0", 1);
        new Script().then("check 1", NO).then("check 30", NO).then("check 31", BAD);
    }

    /** "AN IMAGE is kept: how many PEOPLE"; "all can become as it is (again and again)"; "NO: there is none". */
    private static void keepAndBackAgain() {
        new Script().then("back", NO).then("keep", 0).then("back", 0).then("person 0 0 0", 0).then("back", 0).then("count 0", 0)
            .then("deal 10", 10).then("back", 0).then("count 9", 1).then("deal 10", 10).then("keep", 10).then("back", 10);
        Script s = ten(2, 1, 30).then("keep", 10);
        for (int k = 0; k < 3; k++) {
            s.go("set 9 1 0", "set 9 2 1", "set 9 3 5", "turns 9 5", "friends 9 8 1", "rule 0 9", "rule 1 2", "rule 2 100", "years 9",
                "law dues 7", "seed 5").then("back", 10);
            s.then("told 9 0", 2).then("told 9 1", 1).then("told 9 2", 30).then("told 9 3", 0).then("told 9 4", 0).then("told 8 4", 0)
                .then("count 1", 0).then("count 2", 0).then("count 3", 0).then("count 4", 0).then("count 6", 0).then("count 9", 1)
                .then("town 1", 0).then("town 2", 0).then("town 3", 1023);
        }
        s.go("set 0 1 0").then("keep", 10).go("set 1 1 0").then("back", 10).then("town 3", 1022).go("set 0 1 1").then("back", 10)
            .then("town 3", 1022);
    }

    /** "AN IMAGE keeps all": PEOPLE with all that is theirs, rules, CHEST, CHANGES, THE YEAR, z, TEXTS. */
    private static void whatAnImageKeeps() {
        Script s = Script.of("person 1 0 12", "person 4 1 99", "friends 0 1 1", "law dues 40", "law fee c+y", "law fine p", "rule 0 0",
            "rule 1 2", "rule 2 100", "seed 6", "years 30", "set 0 3 9999", "set 1 3 -9999");
        int[] before = seen(s);
        s.then("keep", 2).go("friends 0 1 0", "set 0 1 1", "set 1 1 1", "set 0 2 5", "set 1 2 5", "set 0 3 0", "set 1 3 0",
            "turns 0 0", "turns 1 0", "rule 0 5", "rule 1 1", "rule 2 7", "seed 1", "years 3", "law dues 1", "law fee 1", "law fine 1",
            "deal 8").then("back", 2);
        int[] behind = seen(s);
        for (int k = 0; k < before.length; k++) {
            Due.due("kept, at " + k, behind[k], before[k]);
        }
        s.then("person 0 0 0", 2).then("told 2 4", 0).then("told 2 3", 0).then("told 2 1", 0);
    }

    private static int[] seen(Script s) {
        String[] calls = {"count 0", "count 1", "count 2", "count 3", "count 4", "count 5", "count 6", "count 9", "town 0", "town 1",
            "town 2", "town 3", "fee", "fine 0", "fine 1", "why 0", "why 1", "why 2", "told 0 0", "told 0 1", "told 0 2", "told 0 3",
            "told 0 4", "told 0 6", "told 1 0", "told 1 1", "told 1 2", "told 1 3", "told 1 4", "told 1 6", "textTold 0 0",
            "textTold 1 1", "textTold 2 0", "textTold 3 0", "behind 20 1", "behind 20 2", "behind 20 3"};
        int[] row = new int[calls.length];
        for (int k = 0; k < calls.length; k++) {
            row[k] = s.call(calls[k]);
        }
        return row;
    }

    /** "All but SHEETS, SLOTS, numbers that wait, THE TAPE". */
    private static void whatAnImageLeaves() {
        Script s = Script.of("sheet 0 0 2", "sheet 1 1 1", "lay 0 3 5", "lay 1 2 0", "tell 0", "tape fee 3", "keep");
        s.go("mark 0 1 7", "sheet 1 -1 0", "sheet 2 0 24", "lay 0 0 0", "lay 1 3 9", "lay 2 2 0", "tell 0", "trim 0", "tape fee 42");
        s.then("back", 0).then("reads 1", NOTHING).then("reads 2", 0).then("rest 0 2", NOTHING).then("rest 1 2", 1).then("item 2 1", 7)
            .then("count 7", 2).then("count 8", 6).then("text", 0).then("fee", 42).then("check 1", 0);
        places(s, 0, 0, 7);
    }

    /** "0 how many PEOPLE .. 9 z", each at its ends. */
    private static void countOfAll() {
        Script s = new Script();
        for (int k = 0; k < 9; k++) {
            s.then("count " + k, 0);
        }
        s.then("count 9", 1).then("count 10", BAD).then("count -1", BAD);
        s = ten(0, 1, 0).go("rule 0 9", "rule 1 2", "rule 2 100", "years 100", "seed LOW", "set 0 1 1", "set 1 1 0");
        for (int k = 0; k < 14; k++) {
            s.go("law dues 1");
        }
        for (int k = 0; k < 60; k++) {
            s.go("tell 1");
        }
        for (int k = 0; k < 8; k++) {
            s.go("feed 1 1 1");
        }
        int pro = Integer.bitCount(s.call("town 3"));
        int[] counts = {10, 100, 9, 2, 100, pro, 14, 60, 96, Due.LOW};
        for (int k = 0; k < 10; k++) {
            s.then("count " + k, counts[k]);
        }
    }
}

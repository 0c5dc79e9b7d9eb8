import java.util.ArrayList;
import java.util.List;

/**
 * "A call that is refused answers one of BAD, NO, FULL, or a FINDING, of several the one that stands first with it, and
 * changes nothing (but the tape and the numbers that wait, where told)": every refused call, with the first values that
 * are refused on both sides, on one of two objects that were made alike; all that later calls show is the same then.
 */
public final class RefusedTest {
    private static final int BAD = Due.BAD, NO = Due.NO, FULL = Due.FULL, NONE = Due.NONE;
    private static final int NOTHING = Due.NOTHING, KIND = Due.KIND, INDEX = Due.INDEX, SIZE = Due.SIZE;
    private static final String NEW = "NEW", RICH = "RICH", UNKEPT = "UNKEPT", FILLED = "FILLED";

    public static void main(String[] args) {
        theStates();
        people();
        friends();
        rules();
        order();
        years();
        texts();
        theTapeIsUsedUp();
        sheets();
        copy();
        slots();
        rows();
        theNumbersWaitNoMore();
        ofSeveralTheFirst();
        callsThatOnlyAsk();
        Due.end();
    }

    // ---- objects

    /** Nothing is empty here: 5 PEOPLE, 4 TEXTS, 12 bytes, 4 numbers, AN IMAGE; SHEET 3 is MISSING, SLOT 0 empty. */
    private static Script rich() {
        return rich(true);
    }

    private static Script rich(boolean withAnImage) {
        Script s = Script.of("seed 5", "person 0 1 31", "person 3 0 12", "person 4 1 99", "person 5 0 7", "friends 0 1 1",
            "friends 1 2 1", "friends 2 3 1", "friends 0 2 1", "rule 0 1", "rule 1 2", "rule 2 40", "set 0 3 -50",
            "law dues o*4+f-m", "law fee c+y*2", "law fine p-o", "years 3");
        if (withAnImage) {
            tellYears(s.go("keep"), 2);
        }
        s.go("person 1 1 50", "friends 4 0 1", "set 2 1 1", "rule 0 2", "law dues 9+f", "years 2", "seed 99", "sheet 0 0 6",
            "sheet 1 1 5", "sheet 2 0 0", "mark 0 0 1", "mark 0 1 -3", "mark 0 5 700", "mark 1 0 2", "mark 1 2 NONE",
            "mark 1 4 -99999", "lay 1 1 1", "lay 2 2 0", "lay 3 3 77", "lay 4 2 1", "mark 0 0 2", "turns 1 2");
        if (!withAnImage) {
            tellYears(s, 2);
        }
        return s.go("tape fee 7*c+y   ");
    }

    /** All is full: 10 PEOPLE, 14 TEXTS, 96 bytes, 60 numbers, rows of 24 places. */
    private static Script filled() {
        Script s = Script.of("seed 3", "deal 10", "rule 0 1", "rule 1 1");
        for (int k = 0; k < 10; k++) {
            s.go("friends " + k + " " + (k + 1) % 10 + " 1");
        }
        tellYears(s.go("friends 0 4 1", "friends 2 9 1", "keep"), 30);
        for (int k = 0; k < 14; k++) {
            s.go("law " + (k % 2 == 0 ? "fine " : "dues ") + k);
        }
        for (int k = 0; k < 2; k++) {
            s.go("sheet " + k + " " + k + " 24", "mark " + k + " 0 2", "mark " + k + " 23 9", "lay " + k + " 2 " + k);
        }
        for (int k = 2; k < 5; k++) {
            s.go("lay " + k + " 3 " + 50 * k);
        }
        return s.go("tape fee 12" + "+2".repeat(45));
    }

    private static void tellYears(Script s, int years) {
        for (int n = 1; n <= years; n++) {
            s.go("tell " + s.call("behind " + n + " 3"), "tell " + s.call("behind " + n + " 1"));
        }
    }

    private static Script made(String state) {
        switch (state) {
            case NEW: return new Script();
            case UNKEPT: return rich(false);
            case RICH: return rich();
            default: return filled();
        }
    }

    // ---- what later calls show

    /**
     * What is used up by being shown, then what is told at any time, THE IMAGE, and at last what is refused: for if a
     * refused call changed something, it would change it here, too, on both objects.
     */
    private static List<Integer> shown(Script s, String state) {
        List<Integer> row = new ArrayList<>();
        ask(s, row, "count ", 10);
        if (state.equals(UNKEPT)) {
            row.add(s.call("keep"));
        }
        if (!state.equals(NEW)) {
            row.add(s.call("check " + (state.equals(FILLED) ? 30 : 2)));
            row.add(s.call("text"));
        }
        now(s, row, state.equals(FILLED) ? 5 : 9);
        slotsAndSheets(s, row, state);
        if (!state.equals(NEW)) {
            theImage(s, row, state.equals(FILLED));
        }
        whatIsRefused(s, row);
        return row;
    }

    private static void now(Script s, List<Integer> row, int whats) {
        ask(s, row, "town ", 6);
        int size = s.call("count 0");
        people(s, row, size, whats);
        ask(s, row, "why ", 3);
        ask(s, row, "fine ", size);
        for (int k = s.call("count 6") - 1; k >= 0; k--) {
            row.add(s.call("textTold " + k + " 1"));
        }
        for (String line : new String[] {"fee", "ways", "freedom", "best 0 0", "best 1 1"}) {
            row.add(s.call(line));
        }
        ask(s, row, "minds ", 4);
        ask(s, row, "behind 3 ", 4);
    }

    private static void ask(Script s, List<Integer> row, String call, int many) {
        for (int k = 0; k < many; k++) {
            row.add(s.call(call + k));
        }
    }

    private static void people(Script s, List<Integer> row, int size, int whats) {
        for (int one = 0; one < size; one++) {
            ask(s, row, "told " + one + " ", whats);
        }
    }

    private static void slotsAndSheets(Script s, List<Integer> row, String state) {
        if (state.equals(FILLED)) {
            ask(s, row, "item 0 ", 24);
            ask(s, row, "item 1 ", 24);
            for (int k = 2; k < 5; k++) {
                row.add(s.call("rest " + k + " 1000"));
            }
            sheet(s, row, 0, 24);
            sheet(s, row, 1, 24);
        } else if (!state.equals(NEW)) {
            row.add(s.call("ask 1 1"));
            ask(s, row, "item 2 ", 6);
            row.add(s.call("rest 3 1000"));
            ask(s, row, "item 4 ", 5);
            sheet(s, row, 0, 6);
            sheet(s, row, 1, 5);
            sheet(s, row, 2, 0);
        }
    }

    private static void sheet(Script s, List<Integer> row, int sheet, int size) {
        row.add(s.call("reads " + sheet));
        row.add(s.call("lied " + sheet + " 1"));
        row.add(s.call("lay 0 2 " + sheet));
        ask(s, row, "item 0 ", size);
    }

    private static void theImage(Script s, List<Integer> row, boolean filled) {
        row.add(s.call("back"));
        ask(s, row, "town ", 4);
        row.add(s.call("behind 2 1"));
        row.add(s.call("count 9"));
        row.add(s.call("count 6"));
        int size = s.call("count 0");
        for (int one = 0; one < size; one++) {
            row.add(s.call("told " + one + " 3"));
            row.add(filled ? 0 : s.call("told " + one + " 4"));
        }
    }

    private static void whatIsRefused(Script s, List<Integer> row) {
        for (String line : new String[] {"together", "settles", "won 2 1", "reads 3", "lied 3 0", "ask 0 0", "rest 0 5", "item 0 24",
            "item 3 0", "text", "check 1", "back"}) {
            row.add(s.call(line));
        }
    }

    /** That the states are what they are meant to be, so that a change in them would show. */
    private static void theStates() {
        rich().then("count 0", 5).then("count 6", 4).then("count 7", 4).then("count 8", 12).then("check 2", 0)
            .then("text", 4).then("textTold 4 0", 1).then("together", NO).then("reads 3", NOTHING).then("rest 0 1", NOTHING)
            .then("back", 4).then("count 6", 3);
        rich(false).then("back", NO).then("count 7", 4).then("keep", 5).then("check 2", 0).then("text", 4);
        filled().then("count 0", 10).then("count 6", 14).then("count 7", 60).then("count 8", 96).then("check 30", 0)
            .then("text", FULL).then("settles", NONE);
        for (String state : new String[] {NEW, RICH, UNKEPT, FILLED}) {
            due(state + " made twice is the same", same(made(state), made(state), state), 1);
        }
    }

    // ---- refusals

    private static void due(String call, long got, long want) {
        Due.due(call, got, want);
    }

    private static int same(Script a, Script b, String state) {
        List<Integer> had = shown(a, state);
        List<Integer> has = shown(b, state);
        for (int k = 0; k < had.size() && k < has.size(); k++) {
            if (!had.get(k).equals(has.get(k))) {
                System.out.println("at " + k + " of what is shown: " + has.get(k) + " in place of " + had.get(k));
            }
        }
        return had.equals(has) ? 1 : 0;
    }

    private static void refused(String state, String line, int want) {
        Script s = made(state);
        due(state + ": " + line, s.call(line), want);
        due(state + ": behind " + line + " all is as it was", same(made(state), s, state), 1);
    }

    /** The call with the first values below and above, and the least and the greatest number, in place of %. */
    private static void sides(String state, String call, int below, int above, int want) {
        String[] values = {"" + below, "" + above, "LOW", "HIGH"};
        for (String v : values) {
            refused(state, call.replace("%", v), want);
        }
    }

    private static void people() {
        sides(RICH, "person % 0 0", -1, 6, BAD);
        sides(RICH, "person 0 % 0", -1, 2, BAD);
        sides(RICH, "person 0 0 %", -1, 100, BAD);
        refused(NEW, "person 6 0 0", BAD);
        refused(FILLED, "person 0 0 0", FULL);
        refused(FILLED, "person 5 1 99", FULL);
        sides(RICH, "told % 0", -1, 5, BAD);
        sides(RICH, "told 0 %", -1, 9, BAD);
        sides(NEW, "told % 0", -1, 0, BAD);
        sides(FILLED, "told % 0", -1, 10, BAD);
        sides(RICH, "as % 0", -1, 5, BAD);
        sides(RICH, "as 0 %", -1, 6, BAD);
        sides(FILLED, "as % 0", -1, 10, BAD);
        refused(NEW, "as 0 0", BAD);
        refused(RICH, "as 0 1", KIND);
        refused(RICH, "as 4 3", KIND);
        sides(RICH, "turns % 1", -1, 5, BAD);
        sides(RICH, "turns 0 %", -1, 6, BAD);
        sides(FILLED, "turns % 1", -1, 10, BAD);
        refused(NEW, "turns 0 1", BAD);
        sides(RICH, "set % 2 5", -1, 5, BAD);
        sides(FILLED, "set % 2 5", -1, 10, BAD);
        sides(RICH, "set 0 % 1", 0, 4, BAD);
        sides(RICH, "set 1 1 %", -1, 2, BAD);
        sides(RICH, "set 0 2 %", -1, 100, BAD);
        sides(RICH, "set 0 3 %", -10000, 10000, BAD);
        refused(NEW, "set 0 1 0", BAD);
    }

    private static void friends() {
        for (int on = 0; on < 2; on++) {
            sides(RICH, "friends % 0 " + on, -1, 5, BAD);
            sides(RICH, "friends 0 % " + on, -1, 5, BAD);
            sides(FILLED, "friends % 0 " + on, -1, 10, BAD);
            sides(FILLED, "friends 0 % " + on, -1, 10, BAD);
            refused(RICH, "friends 0 0 " + on, BAD);
            refused(RICH, "friends 4 4 " + on, BAD);
            refused(FILLED, "friends 9 9 " + on, BAD);
            refused(NEW, "friends 0 1 " + on, BAD);
        }
        sides(RICH, "friends 0 1 %", -1, 2, BAD);
        sides(RICH, "friends 0 3 %", -1, 2, BAD);
    }

    private static void rules() {
        sides(RICH, "rule % 0", -1, 3, BAD);
        sides(RICH, "rule 0 %", -1, 10, BAD);
        sides(RICH, "rule 1 %", -1, 3, BAD);
        sides(RICH, "rule 2 %", -1, 101, BAD);
        sides(RICH, "deal %", 0, 11, BAD);
        sides(NEW, "deal %", 0, 11, BAD);
        sides(FILLED, "deal %", 0, 11, BAD);
        refused(RICH, "deal -1", BAD);
    }

    private static void order() {
        sides(RICH, "town %", -1, 6, BAD);
        sides(RICH, "minds %", -1, 4, BAD);
        sides(NEW, "minds %", -1, 4, BAD);
        refused(RICH, "together", NO);
        sides(RICH, "best % 0", -1, 2, BAD);
        sides(RICH, "best 0 %", -1, 2, BAD);
        sides(RICH, "best 1 %", -1, 2, BAD);
    }

    private static void years() {
        sides(RICH, "years %", 0, 101, BAD);
        sides(NEW, "years %", 0, 101, BAD);
        refused(RICH, "years -1", BAD);
        sides(RICH, "behind % 0", -1, 101, BAD);
        sides(RICH, "behind 5 %", -1, 4, BAD);
        sides(RICH, "won % 0", 0, 61, BAD);
        sides(RICH, "won 5 %", -1, 2, BAD);
        sides(RICH, "lied % 0", -1, 4, BAD);
        sides(RICH, "lied 0 %", -1, 2, BAD);
        refused(RICH, "lied 3 0", NOTHING);
        refused(NEW, "lied 0 1", NOTHING);
        sides(RICH, "fine %", -1, 5, BAD);
        sides(FILLED, "fine %", -1, 10, BAD);
        refused(NEW, "fine 0", BAD);
    }

    private static void texts() {
        refused(FILLED, "feed 0 0 0", FULL);
        refused(FILLED, "feed HIGH LOW -1", FULL);
        sides(RICH, "trim %", -1, 13, BAD);
        sides(NEW, "trim %", -1, 1, BAD);
        sides(FILLED, "trim %", -1, 97, BAD);
        sides(RICH, "textTold % 0", -1, 4, BAD);
        sides(FILLED, "textTold % 0", -1, 14, BAD);
        sides(RICH, "textTold 0 %", -1, 2, BAD);
        refused(NEW, "textTold 0 0", BAD);
        sides(RICH, "why %", -1, 3, BAD);
        sides(NEW, "why %", -1, 3, BAD);
    }

    /** "An act that reads it uses it up, whatever it answers": one that is refused changes that alone. */
    private static void theTapeIsUsedUp() {
        usedUp(RICH, "fee 7*c+yy", -108);
        usedUp(RICH, "dues c", -105);
        usedUp(RICH, "", -100);
        usedUp(RICH, "   ", -103);
        usedUp(NEW, "fee 1)", -105);
        usedUp(FILLED, "fee 1", FULL);
        usedUp(FILLED, "fee 1 1", -106);
    }

    private static void usedUp(String state, String tape, int want) {
        Script s = made(state).go("trim 0", "tape " + tape);
        due(state + ": text " + tape, s.call("text"), want);
        due(state + ": text " + tape + " leaves no bytes", s.call("count 8"), 0);
        s.go("tape fee 5");
        due(state + ": behind text " + tape + " all else is as it was", same(made(state).go("trim 0", "tape fee 5"), s, state), 1);
    }

    private static void sheets() {
        sides(RICH, "sheet % 0 3", -1, 4, BAD);
        sides(RICH, "sheet % -1 3", -1, 4, BAD);
        sides(RICH, "sheet 0 % 3", -2, 2, BAD);
        refused(RICH, "sheet 0 0 25", BAD);
        refused(RICH, "sheet 1 1 25", BAD);
        refused(RICH, "sheet 3 0 HIGH", BAD);
        refused(RICH, "sheet 0 0 -1", SIZE);
        refused(RICH, "sheet 1 1 -1", SIZE);
        refused(RICH, "sheet 3 1 LOW", SIZE);
        sides(RICH, "mark % 0 1", -1, 4, BAD);
        sides(RICH, "mark 0 % 1", -1, 6, INDEX);
        sides(RICH, "mark 1 % 1", -1, 5, INDEX);
        sides(RICH, "mark 2 % 1", -1, 0, INDEX);
        sides(FILLED, "mark 0 % 1", -1, 24, INDEX);
        sides(RICH, "mark 1 0 %", -100000, 100000, BAD);
        refused(RICH, "mark 1 2 " + (NONE - 1), BAD);
        refused(RICH, "mark 1 2 " + (NONE + 1), BAD);
        refused(RICH, "mark 0 0 NONE", KIND);
        refused(RICH, "mark 3 0 1", NOTHING);
        refused(NEW, "mark 0 0 NONE", NOTHING);
        for (String call : new String[] {"pour", "reads"}) {
            sides(RICH, call + " %", -1, 4, BAD);
            refused(RICH, call + " 3", NOTHING);
            refused(NEW, call + " 0", NOTHING);
        }
    }

    private static void copy() {
        sides(RICH, "copy % 0 0 0 1", -1, 4, BAD);
        sides(RICH, "copy 0 0 % 0 1", -1, 4, BAD);
        refused(RICH, "copy 3 0 0 0 1", NOTHING);
        refused(RICH, "copy 0 0 3 0 1", NOTHING);
        refused(RICH, "copy 3 0 3 0 0", NOTHING);
        refused(RICH, "copy 0 0 1 0 1", KIND);
        refused(RICH, "copy 1 0 2 0 0", KIND);
        sides(RICH, "copy 0 % 0 0 2", -1, 5, INDEX);
        sides(RICH, "copy 0 0 0 % 2", -1, 5, INDEX);
        sides(RICH, "copy 0 0 0 0 %", -1, 7, INDEX);
        sides(RICH, "copy 0 % 0 0 0", -1, 7, INDEX);
        sides(RICH, "copy 0 0 0 % 0", -1, 7, INDEX);
        sides(RICH, "copy 2 % 2 0 0", -1, 1, INDEX);
        refused(RICH, "copy 0 0 2 0 1", INDEX);
        refused(RICH, "copy 2 0 0 0 1", INDEX);
        refused(RICH, "copy 0 HIGH 0 0 HIGH", INDEX);
        refused(RICH, "copy 0 1 0 1 HIGH", INDEX);
        sides(FILLED, "copy 1 0 1 1 %", -1, 24, INDEX);
        sides(FILLED, "copy 1 1 1 0 %", -1, 24, INDEX);
    }

    private static void slots() {
        sides(RICH, "lay % 3 5", -1, 5, BAD);
        sides(RICH, "lay 3 % 0", -1, 4, BAD);
        sides(RICH, "lay 3 1 %", -1, 5, BAD);
        sides(FILLED, "lay 3 1 %", -1, 10, BAD);
        sides(RICH, "lay 3 2 %", -1, 4, BAD);
        refused(RICH, "lay 3 2 3", NOTHING);
        refused(NEW, "lay 0 2 0", NOTHING);
        refused(NEW, "lay 0 1 0", BAD);
        sides(RICH, "ask % 0", -1, 5, BAD);
        sides(RICH, "ask 1 %", -1, 6, BAD);
        refused(RICH, "ask 0 0", NOTHING);
        refused(RICH, "ask 1 2", KIND);
        refused(RICH, "ask 2 0", KIND);
        refused(RICH, "ask 3 0", KIND);
        sides(RICH, "item % 0", -1, 5, BAD);
        sides(RICH, "item 2 %", -1, 6, INDEX);
        sides(RICH, "item 4 %", -1, 5, INDEX);
        sides(FILLED, "item 1 %", -1, 24, INDEX);
        refused(RICH, "item 0 0", NOTHING);
        refused(RICH, "item 1 0", KIND);
        refused(RICH, "item 3 0", KIND);
        refused(RICH, "item 4 2", KIND);
        sides(RICH, "rest % 1", -1, 5, BAD);
        refused(RICH, "rest 0 1", NOTHING);
        refused(RICH, "rest 1 1", KIND);
        refused(RICH, "rest 2 1", KIND);
        refused(RICH, "rest 3 0", NO);
    }

    private static void rows() {
        refused(FILLED, "tell 0", FULL);
        refused(FILLED, "tell HIGH", FULL);
        refused(NEW, "back", NO);
        refused(UNKEPT, "back", NO);
        refused(NEW, "check 1", NO);
        sides(NEW, "check %", 0, 31, BAD);
        sides(RICH, "count %", -1, 10, BAD);
    }

    /** "The numbers that wait (none do then, whatever is answered)": a refused check changes that alone. */
    private static void theNumbersWaitNoMore() {
        for (String n : new String[] {"0", "31", "-1", "LOW", "HIGH"}) {
            for (String state : new String[] {RICH, FILLED}) {
                Script s = made(state);
                due(state + ": check " + n, s.call("check " + n), BAD);
                due(state + ": none waits behind check " + n, s.call("count 7"), 0);
                due(state + ": behind check " + n + " all else is as it was", same(made(state).go("check 1"), s, state), 1);
            }
        }
        for (String n : new String[] {"1", "2", "30", "0", "31"}) {
            Script s = rich(false).then("check " + n, n.equals("0") || n.equals("31") ? BAD : NO).then("count 7", 0);
            Script other = rich(false).then("keep", 5).then("check 2", 0);
            due("behind check " + n + " without AN IMAGE all else is as it was", same(other, s, UNKEPT), 1);
            s = Script.of("tell 1", "tell 2").then("check " + n, n.equals("0") || n.equals("31") ? BAD : NO).then("count 7", 0);
            due("behind check " + n + " of nobody all is as it was", same(new Script(), s, NEW), 1);
        }
    }

    /** "Of several the one that stands first with it". */
    private static void ofSeveralTheFirst() {
        refused(FILLED, "person 6 0 0", BAD);
        refused(FILLED, "person 0 2 0", BAD);
        refused(FILLED, "person 0 0 100", BAD);
        refused(RICH, "as 5 1", BAD);
        refused(RICH, "as 0 6", BAD);
        refused(NEW, "best 2 0", BAD);
        refused(NEW, "best 0 2", BAD);
        refused(NEW, "won 0 0", BAD);
        refused(NEW, "won 61 0", BAD);
        refused(NEW, "won 1 2", BAD);
        refused(NEW, "lied 4 0", BAD);
        refused(NEW, "lied 0 2", BAD);
        refused(NEW, "lied 3 1", NOTHING);
        refused(RICH, "sheet 4 0 -1", BAD);
        refused(RICH, "sheet 0 2 -1", BAD);
        refused(RICH, "sheet 4 2 25", BAD);
        refused(RICH, "mark 4 9 NONE", BAD);
        refused(RICH, "mark 3 -1 NONE", NOTHING);
        refused(RICH, "mark 3 0 100000", NOTHING);
        refused(RICH, "mark 0 6 NONE", INDEX);
        refused(RICH, "mark 1 5 100000", INDEX);
        refused(RICH, "copy 4 0 3 0 1", BAD);
        refused(RICH, "copy 3 0 4 0 1", BAD);
        refused(RICH, "copy 3 9 0 0 1", NOTHING);
        refused(RICH, "copy 1 9 3 0 1", NOTHING);
        refused(RICH, "copy 0 9 1 0 1", KIND);
        refused(RICH, "copy 0 0 1 0 -1", KIND);
        refused(RICH, "lay 5 2 3", BAD);
        refused(RICH, "lay 5 1 9", BAD);
        refused(RICH, "ask 5 6", BAD);
        refused(RICH, "ask 0 6", BAD);
        refused(RICH, "ask 2 6", BAD);
        refused(RICH, "ask 0 1", NOTHING);
        refused(RICH, "item 0 -1", NOTHING);
        refused(RICH, "item 1 99", KIND);
        refused(RICH, "item 3 -1", KIND);
        refused(RICH, "rest 5 0", BAD);
        refused(RICH, "rest 0 0", NOTHING);
        refused(RICH, "rest 1 0", KIND);
        refused(RICH, "rest 2 0", KIND);
    }

    /** Calls that tell, NONE among their answers, and calls that are only thought: nothing changes. */
    private static void callsThatOnlyAsk() {
        String[] calls = {"told 1 5", "told 1 6", "told 1 7", "told 4 8", "as 1 0", "town 0", "town 4", "ways", "minds 0",
            "minds 1", "minds 2", "minds 3", "freedom", "best 0 0", "best 1 1", "behind 0 0", "behind 100 1", "settles",
            "won 60 0", "won 1 1", "lied 0 0", "lied 1 1", "lied 2 0", "fee", "fine 4", "textTold 3 1", "why 0", "why 2",
            "reads 0", "reads 1", "reads 2", "ask 1 0", "item 2 0", "item 4 4", "rest 3 -5", "count 9", "trim 12",
            "copy 0 0 0 0 6", "copy 2 0 2 0 0", "lay 3 3 77", "lay 0 0 9", "friends 0 1 1", "friends 0 3 0", "turns 1 2",
            "rule 0 2", "seed 99"};
        for (String call : calls) {
            Script s = rich();
            s.call(call);
            due("behind " + call + " all is as it was", same(rich(), s, RICH), 1);
        }
        String[] ofTen = {"settles", "won 60 1", "best 1 0", "best 0 1", "behind 100 2", "deal 10", "minds 1"};
        for (String call : ofTen) {
            Script s = filled();
            s.call(call);
            due("behind " + call + " of ten all is as it was", same(filled(), s, FILLED), 1);
        }
        String[] ofNobody = {"together", "best 0 0", "best 1 1", "won 1 0", "settles", "behind 9 3", "why 1"};
        for (String call : ofNobody) {
            Script s = new Script();
            s.call(call);
            due("behind " + call + " of nobody all is as it was", same(new Script(), s, NEW), 1);
        }
    }
}

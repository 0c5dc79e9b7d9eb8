import java.nio.charset.StandardCharsets;
import java.util.List;
import java.util.Random;

/** Runs of 512 calls by lot on HalfFriends and on Plain: all answers are the same. */
public final class ModelTest {
    private static final String[] CALLS = Script.CALLS;
    private static final int FULL_RUN = 512;

    private final Random lot;
    private final HalfFriends x = new HalfFriends();
    private final Plain p = new Plain();
    private final int run;
    private int calls = 0;

    private ModelTest(int run) {
        this.run = run;
        this.lot = new Random(run);
    }

    public static void main(String[] args) {
        int runs = args.length > 0 ? Integer.parseInt(args[0]) : 400;
        int first = args.length > 1 ? Integer.parseInt(args[1]) : 0;
        for (int run = first; run < first + runs; run++) {
            new ModelTest(run).go();
        }
        Due.end();
    }

    private void go() {
        int wildness = lot.nextInt(3) == 0 ? 25 : 4;
        if (lot.nextInt(4) > 0) {
            begin();
        }
        while (calls < FULL_RUN - 90) {
            int which = lot.nextInt(100);
            if (which < 5) {
                text();
            } else if (which < 8) {
                rows();
            } else {
                int call = lot.nextInt(CALLS.length);
                if ((call == 10 || call == 12 || call == 14) && lot.nextInt(4) > 0) {
                    continue;
                }
                both(call, arguments(call, wildness));
            }
        }
    }

    private void begin() {
        both(8, new int[] {lot.nextInt(), 0, 0, 0, 0});
        both(7, new int[] {1 + lot.nextInt(10), 0, 0, 0, 0});
        int many = x.count(0);
        for (int k = lot.nextInt(3 * many); k > 0; k--) {
            both(5, new int[] {lot.nextInt(many), lot.nextInt(many), 1, 0, 0});
        }
        for (int k = 0; k < many; k++) {
            if (lot.nextInt(2) == 0) {
                both(3, new int[] {k, lot.nextInt(5), 0, 0, 0});
            }
        }
        both(6, new int[] {0, lot.nextInt(3), 0, 0, 0});
        both(6, new int[] {1, lot.nextInt(3), 0, 0, 0});
        both(6, new int[] {2, lot.nextInt(2) * lot.nextInt(101), 0, 0, 0});
    }

    private void both(int call, int[] a) {
        calls++;
        int want = onPlain(call, a);
        int got = Script.on(x, CALLS[call], a);
        Due.due("run " + run + " call " + calls + " " + CALLS[call] + " " + java.util.Arrays.toString(a), got, want);
    }

    /** Arguments that mostly fit the call, and now and then do not. */
    private int[] arguments(int call, int wildness) {
        int one = lot.nextInt(Math.max(1, p.count(0)));
        int[] a = {one, lot.nextInt(10), lot.nextInt(3), lot.nextInt(24), lot.nextInt(24)};
        switch (CALLS[call]) {
            case "person": a[0] = lot.nextInt(6); a[1] = lot.nextInt(2); a[2] = lot.nextInt(100); break;
            case "as": case "turns": a[1] = lot.nextInt(6); break;
            case "set": a[1] = 1 + lot.nextInt(3); a[2] = lot.nextInt(4) == 0 ? lot.nextInt(20001) - 10000 : lot.nextInt(2); break;
            case "friends": a[1] = lot.nextInt(Math.max(1, p.count(0))); a[2] = lot.nextInt(2); break;
            case "rule": a[0] = lot.nextInt(3); a[1] = lot.nextInt(a[0] == 2 ? 102 : 4); break;
            case "deal": a[0] = lot.nextInt(20) == 0 ? 1 + lot.nextInt(10) : 1; break;
            case "seed": a[0] = lot.nextInt(); break;
            case "years": a[0] = lot.nextInt(5) == 0 ? lot.nextInt(102) : 1 + lot.nextInt(4); break;
            case "behind": a[0] = lot.nextInt(102); a[1] = lot.nextInt(4); break;
            case "won": a[0] = lot.nextInt(62); a[1] = lot.nextInt(2); break;
            case "lied": a[0] = lot.nextInt(4); a[1] = lot.nextInt(2); break;
            case "best": a[0] = lot.nextInt(2); a[1] = lot.nextInt(2); break;
            case "town": a[0] = lot.nextInt(6); break;
            case "minds": a[0] = lot.nextInt(4); break;
            case "feed": a[0] = lot.nextInt(); a[1] = 0x20202020; a[2] = lot.nextInt(); break;
            case "trim": a[0] = lot.nextInt(98) - 1; break;
            case "textTold": a[0] = lot.nextInt(15); a[1] = lot.nextInt(2); break;
            case "why": a[0] = lot.nextInt(3); break;
            case "sheet": a[0] = lot.nextInt(4); a[1] = lot.nextInt(8) == 0 ? -1 : lot.nextInt(2); a[2] = lot.nextInt(27) - 1; break;
            case "mark": a[0] = lot.nextInt(4); a[1] = lot.nextInt(lot.nextInt(2) * 15 + 10); a[2] = value(); break;
            case "pour": case "reads": a[0] = lot.nextInt(4); break;
            case "copy": a[0] = lot.nextInt(4); a[1] = lot.nextInt(9); a[2] = lot.nextInt(4); a[3] = lot.nextInt(9); a[4] = lot.nextInt(9); break;
            case "lay": a[0] = lot.nextInt(5); a[1] = lot.nextInt(4); a[2] = a[1] == 3 ? lot.nextInt() : lot.nextInt(4); break;
            case "ask": a[0] = lot.nextInt(5); a[1] = lot.nextInt(6); break;
            case "item": a[0] = lot.nextInt(5); a[1] = lot.nextInt(14); break;
            case "rest": a[0] = lot.nextInt(5); a[1] = lot.nextInt(41) - 20; break;
            case "check": a[0] = 1 + lot.nextInt(30); break;
            case "count": a[0] = lot.nextInt(10); break;
            default: break;
        }
        if (lot.nextInt(100) < wildness) {
            int[] wild = {-1, 6, 10, 101, 25, Integer.MIN_VALUE, Integer.MAX_VALUE, Due.NONE, -2, 4, 5};
            a[lot.nextInt(3)] = wild[lot.nextInt(wild.length)];
        }
        return a;
    }

    private int value() {
        switch (lot.nextInt(8)) {
            case 0: return Due.NONE;
            case 1: return lot.nextInt(220001) - 110000;
            case 2: return lot.nextInt();
            default: return lot.nextInt(5) - 1;
        }
    }

    // ---- a text by lot

    private static final String[] KEYS = {"dues", "fee", "fine"};
    private static final String[] NAMES = {"ofm", "cy", "op"};

    private void text() {
        int key = lot.nextInt(3);
        String s = blanks() + KEYS[key] + " " + e(0, key, 1 + lot.nextInt(9)) + blanks();
        for (int k = lot.nextInt(3) - 1; k > 0 || (k == 0 && lot.nextBoolean()); k--) {
            s = spoilt(s);
        }
        if (lot.nextInt(12) == 0) {
            String[] nests = {"!", "(", "!(", "!!(", "((!", "( ! "};
            String nest = nests[lot.nextInt(nests.length)];
            StringBuilder b = new StringBuilder(KEYS[key] + " ");
            int many = 4 + lot.nextInt(7);
            for (int k = 0; k < many; k++) {
                b.append(nest);
            }
            b.append("7");
            for (int k = 0; k < many * nest.length(); k++) {
                b.append(nest.charAt(k % nest.length()) == '(' ? ")" : "");
            }
            s = b.toString();
        }
        byte[] bytes = s.substring(0, Math.min(96, s.length())).getBytes(StandardCharsets.ISO_8859_1);
        if (lot.nextInt(10) > 0) {
            both(23, new int[] {0, 0, 0, 0, 0});
        }
        int before = p.count(8);
        for (int k = 0; k < bytes.length; k += 12) {
            both(22, new int[] {Due.four(bytes, k), Due.four(bytes, k + 4), Due.four(bytes, k + 8), 0, 0});
        }
        both(23, new int[] {before + bytes.length, 0, 0, 0, 0});
        both(24, new int[5]);
    }

    private String blanks() {
        return "   ".substring(0, lot.nextInt(5) == 0 ? lot.nextInt(4) : 0);
    }

    private String e(int level, int key, int budget) {
        String[] signs = {"|", "&", "<=>", "+-", "*/"};
        if (level == 5) {
            int sort = lot.nextInt(10);
            if (sort < 2 && budget > 1) {
                return "(" + blanks() + e(0, key, budget - 1) + blanks() + ")";
            }
            if (sort < 4 && budget > 1) {
                return "!" + blanks() + e(5, key, budget - 1);
            }
            if (sort < 7) {
                return "" + NAMES[key].charAt(lot.nextInt(NAMES[key].length()));
            }
            return lot.nextInt(3) == 0 ? "" + lot.nextInt(10000) : "" + lot.nextInt(12);
        }
        StringBuilder s = new StringBuilder(e(level + 1, key, budget));
        for (int k = 0; k < 3 && budget > 1 && lot.nextInt(4) == 0; k++) {
            s.append(blanks()).append(signs[level].charAt(lot.nextInt(signs[level].length()))).append(blanks());
            s.append(e(level + 1, key, budget / 2));
            if (level == 2) {
                break;
            }
        }
        return s.toString();
    }

    private String spoilt(String s) {
        String signs = "duesfinomcyp0123456789()!&|<=>+-*/  #\n\u00e9D";
        int at = lot.nextInt(s.length() + 1);
        char c = signs.charAt(lot.nextInt(signs.length()));
        switch (lot.nextInt(4)) {
            case 0: return s.substring(0, at) + c + s.substring(at);
            case 1: return s.substring(0, at);
            case 2: return at == s.length() ? s : s.substring(0, at) + s.substring(at + 1);
            default: return at == s.length() ? s : s.substring(0, at) + c + s.substring(at + 1);
        }
    }

    // ---- numbers that wait, mostly right ones

    private void rows() {
        if (lot.nextInt(3) > 0) {
            both(38, new int[5]);
        }
        int n = 1 + lot.nextInt(30);
        List<Integer> row = p.yearsTold(n);
        if (lot.nextInt(2) == 0 && !row.isEmpty()) {
            int at = lot.nextInt(row.size());
            switch (lot.nextInt(4)) {
                case 0: row.set(at, row.get(at) ^ 1); break;
                case 1: row = row.subList(0, at); break;
                case 2: row.add(lot.nextInt(9)); break;
                default: row.remove(at); break;
            }
        }
        for (int v : row) {
            both(36, new int[] {v, 0, 0, 0, 0});
        }
        both(37, new int[] {n, 0, 0, 0, 0});
    }

    // ---- calls by their numbers

    private int onPlain(int call, int[] a) {
        switch (CALLS[call]) {
            case "person": return p.person(a[0], a[1], a[2]);
            case "told": return p.told(a[0], a[1]);
            case "as": return p.as(a[0], a[1]);
            case "turns": return p.turns(a[0], a[1]);
            case "set": return p.set(a[0], a[1], a[2]);
            case "friends": return p.friends(a[0], a[1], a[2]);
            case "rule": return p.rule(a[0], a[1]);
            case "deal": return p.deal(a[0]);
            case "seed": return p.seed(a[0]);
            case "town": return p.town(a[0]);
            case "ways": return p.ways();
            case "minds": return p.minds(a[0]);
            case "freedom": return p.freedom();
            case "together": return p.together();
            case "best": return p.best(a[0], a[1]);
            case "years": return p.years(a[0]);
            case "behind": return p.behind(a[0], a[1]);
            case "settles": return p.settles();
            case "won": return p.won(a[0], a[1]);
            case "lied": return p.lied(a[0], a[1]);
            case "fee": return p.fee();
            case "fine": return p.fine(a[0]);
            case "feed": return p.feed(a[0], a[1], a[2]);
            case "trim": return p.trim(a[0]);
            case "text": return p.text();
            case "textTold": return p.textTold(a[0], a[1]);
            case "why": return p.why(a[0]);
            case "sheet": return p.sheet(a[0], a[1], a[2]);
            case "mark": return p.mark(a[0], a[1], a[2]);
            case "pour": return p.pour(a[0]);
            case "reads": return p.reads(a[0]);
            case "copy": return p.copy(a[0], a[1], a[2], a[3], a[4]);
            case "lay": return p.lay(a[0], a[1], a[2]);
            case "ask": return p.ask(a[0], a[1]);
            case "item": return p.item(a[0], a[1]);
            case "rest": return p.rest(a[0], a[1]);
            case "tell": return p.tell(a[0]);
            case "check": return p.check(a[0]);
            case "keep": return p.keep();
            case "back": return p.back();
            default: return p.count(a[0]);
        }
    }
}

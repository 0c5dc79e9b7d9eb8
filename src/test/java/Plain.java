import java.util.ArrayList;
import java.util.List;
import java.util.TreeSet;

/**
 * The document written a second time, without regard to speed or room and in another manner than HalfFriends:
 * KINDS as classes, minds as flags, TEXTS as trees, a FAULT by trying whether any TEXT goes on.
 */
final class Plain {
    static final int BAD = Due.BAD, NO = Due.NO, FULL = Due.FULL, NONE = Due.NONE;
    static final int NOTHING = Due.NOTHING, KIND = Due.KIND, INDEX = Due.INDEX, SIZE = Due.SIZE;

    // ---- KINDS

    private static class Person {
        int dues(int given) {
            return given;
        }

        int asks(int price) {
            return price;
        }

        int worth(int price) {
            return price;
        }
    }

    private static class Even extends Person {
        int dues(int given) {
            return super.dues(given) / 2;
        }

        int asks(int price) {
            return super.asks(price) + 5;
        }

        int worth(int price) {
            return super.worth(price) + 9;
        }
    }

    private static final class Odd extends Even {
        int dues(int given) {
            return super.dues(given) + 2;
        }

        int asks(int price) {
            return super.asks(price) * 2;
        }

        int worth(int price) {
            return super.worth(price) * 2;
        }
    }

    private static class Leaning extends Person {
        int dues(int given) {
            int v = super.dues(given) - 4;
            return v < 0 ? 0 : v;
        }

        int asks(int price) {
            return super.asks(price) / 2;
        }

        int worth(int price) {
            return 99 - price;
        }
    }

    private static final class Free extends Leaning {
        int asks(int price) {
            return 0;
        }

        int worth(int price) {
            return super.worth(price) - 6;
        }
    }

    private static final class Fixed extends Person {
        int dues(int given) {
            return super.dues(given) * 2;
        }

        int worth(int price) {
            return 2;
        }
    }

    private static final Person[] KINDS = {new Person(), new Even(), new Leaning(), new Odd(), new Free(), new Fixed()};

    private static final class One {
        int kind;
        boolean pro;
        int price;
        int purse = 0;
        TreeSet<Integer> friends = new TreeSet<>();

        One copy() {
            One c = new One();
            c.kind = kind;
            c.pro = pro;
            c.price = price;
            c.purse = purse;
            c.friends = new TreeSet<>(friends);
            return c;
        }
    }

    // ---- TEXTS

    private interface Node {
        int value(int first, int second, int third);
    }

    private static final class Text {
        int key;
        int leaves;
        Node tree;
    }

    private record Token(String word, int at, boolean glued) {
    }

    private static final String[] KEYS = {"dues", "fee", "fine"};
    private static final String[] NAMES = {"ofm", "cy", "op"};
    private static final String[] SIGNS = {"|", "&", "<=>", "+-", "*/"};

    private static List<Token> tokens(String s) {
        List<Token> list = new ArrayList<>();
        int i = 0;
        boolean word = false;
        while (i < s.length()) {
            if (s.charAt(i) == ' ') {
                word = false;
                i++;
                continue;
            }
            String rest = s.substring(i);
            String letters = rest.replaceFirst("(?s)[^a-z].*", "");
            String digits = rest.replaceFirst("(?s)[^0-9].*", "");
            String token = !letters.isEmpty() ? letters : !digits.isEmpty() ? digits : rest.substring(0, 1);
            boolean isWord = !letters.isEmpty() || !digits.isEmpty();
            list.add(new Token(token, i, isWord && word));
            word = isWord;
            i += token.length();
        }
        return list;
    }

    /** The tree of tokens from .. to, or null, if they are no E of the level. */
    private static Node tree(List<Token> t, int from, int to, int level, int key, int parens, int nots) {
        if (from >= to) {
            return null;
        }
        if (level == 5) {
            return piece(t, from, to, key, parens, nots);
        }
        int depth = 0;
        for (int k = to - 1; k >= from; k--) {
            String w = t.get(k).word();
            depth += w.equals(")") ? 1 : w.equals("(") ? -1 : 0;
            if (depth == 0 && w.length() == 1 && SIGNS[level].contains(w)) {
                Node left = tree(t, from, k, level == 2 ? 3 : level, key, parens, nots);
                Node right = tree(t, k + 1, to, level + 1, key, parens, nots);
                if (left == null || right == null) {
                    return null;
                }
                return (a, b, c) -> joined(w.charAt(0), left.value(a, b, c), right.value(a, b, c));
            }
        }
        return tree(t, from, to, level + 1, key, parens, nots);
    }

    private static int joined(char sign, int l, int r) {
        switch (sign) {
            case '|': return (l == 0 ? 0 : 1) + (r == 0 ? 0 : 1) > 0 ? 1 : 0;
            case '&': return (l == 0 ? 0 : 1) * (r == 0 ? 0 : 1);
            case '<': return Integer.compare(l, r) < 0 ? 1 : 0;
            case '=': return Integer.compare(l, r) == 0 ? 1 : 0;
            case '>': return Integer.compare(l, r) > 0 ? 1 : 0;
            case '+': return (int) ((long) l + r);
            case '-': return (int) ((long) l - r);
            case '*': return (int) ((long) l * r);
            default: return r == 0 ? 0 : (int) ((long) l / r);
        }
    }

    private static Node piece(List<Token> t, int from, int to, int key, int parens, int nots) {
        String w = t.get(from).word();
        if (w.equals("!")) {
            Node of = nots == 8 ? null : from + 1 < to ? piece(t, from + 1, to, key, parens, nots + 1) : null;
            return of == null ? null : (a, b, c) -> of.value(a, b, c) == 0 ? 1 : 0;
        }
        if (w.equals("(")) {
            boolean ends = parens < 8 && t.get(to - 1).word().equals(")");
            return ends ? tree(t, from + 1, to - 1, 0, key, parens + 1, nots) : null;
        }
        if (to - from != 1 || t.get(from).glued()) {
            return null;
        }
        if (w.matches("[0-9]{1,4}")) {
            int v = Integer.parseInt(w);
            return (a, b, c) -> v;
        }
        if (w.length() != 1 || !NAMES[key].contains(w)) {
            return null;
        }
        int which = NAMES[key].indexOf(w);
        return (a, b, c) -> which == 0 ? a : which == 1 ? b : c;
    }

    private static Text parse(List<Token> t) {
        int key = t.isEmpty() ? -1 : List.of(KEYS).indexOf(t.get(0).word());
        if (key < 0) {
            return null;
        }
        Text text = new Text();
        text.key = key;
        text.tree = tree(t, 1, t.size(), 0, key, 0, 0);
        for (int k = 1; k < t.size(); k++) {
            text.leaves += t.get(k).word().matches("[a-z0-9]+") ? 1 : 0;
        }
        return text.tree == null ? null : text;
    }

    /** Whether a TEXT goes on with these first words and signs: as they are, or with a NUMBER, all ( closed. */
    private static boolean goesOn(List<Token> first) {
        int open = 0;
        for (Token token : first) {
            open += token.word().equals("(") ? 1 : token.word().equals(")") ? -1 : 0;
        }
        for (int number = 0; number < 2; number++) {
            List<Token> all = new ArrayList<>(first);
            if (number == 1) {
                all.add(new Token("1", 0, false));
            }
            for (int k = 0; k < open; k++) {
                all.add(new Token(")", 0, false));
            }
            if (parse(all) != null) {
                return true;
            }
        }
        return false;
    }

    private static int faultOf(String s, List<Token> t) {
        for (int k = 0; k < t.size(); k++) {
            if (!goesOn(t.subList(0, k + 1))) {
                return t.get(k).at();
            }
        }
        return s.length();
    }

    // ---- all that an IMAGE keeps

    private static final class State {
        List<One> people = new ArrayList<>();
        List<Text> texts = new ArrayList<>();
        int slack = 0;
        int mode = 0;
        int whim = 0;
        int chest = 0;
        int changes = 0;
        int year = 0;
        int z = 1;

        State copy() {
            State c = new State();
            for (One one : people) {
                c.people.add(one.copy());
            }
            c.texts.addAll(texts);
            c.slack = slack;
            c.mode = mode;
            c.whim = whim;
            c.chest = chest;
            c.changes = changes;
            c.year = year;
            c.z = z;
            return c;
        }

        int draw() {
            z = (int) (z * 1103515245L + 12345L);
            return (int) ((z & 0xffffffffL) / 256);
        }

        int off(One one) {
            int pro = 0;
            int contra = 0;
            for (int f : one.friends) {
                if (people.get(f).pro) {
                    pro++;
                } else {
                    contra++;
                }
            }
            return pro > contra ? pro - contra : contra - pro;
        }

        int off() {
            int sum = 0;
            for (One one : people) {
                sum += off(one);
            }
            return sum;
        }

        boolean inOrder() {
            for (One one : people) {
                if (off(one) > slack) {
                    return false;
                }
            }
            return true;
        }

        Text text(int key) {
            Text last = null;
            for (Text t : texts) {
                last = t.key == key ? t : last;
            }
            return last;
        }

        int dues(One one) {
            Text t = text(0);
            int given = t == null ? 3 * off(one) : t.tree.value(off(one), one.friends.size(), one.pro ? 1 : 0);
            given = given < 0 ? 0 : given > 999 ? 999 : given;
            return KINDS[one.kind].dues(given);
        }

        void pays(One one, int sum) {
            chest += sum;
            one.purse -= sum;
            one.purse = one.purse < -9999 ? -9999 : one.purse > 9999 ? 9999 : one.purse;
        }

        void year() {
            for (One one : people) {
                if (off(one) > slack) {
                    pays(one, dues(one));
                }
            }
            One looked = null;
            if (mode == 1) {
                for (One one : people) {
                    if (off(one) > 0 && (looked == null || off(one) > off(looked))) {
                        looked = one;
                    }
                }
            } else if (mode == 2 && !people.isEmpty()) {
                looked = people.get(draw() % people.size());
            }
            if (looked != null && looked.kind != 5) {
                int before = near(looked);
                looked.pro = !looked.pro;
                if (near(looked) < before) {
                    changes++;
                    pays(looked, KINDS[looked.kind].asks(looked.price));
                } else {
                    looked.pro = !looked.pro;
                }
            }
            if (!people.isEmpty() && draw() % 100 < whim) {
                One one = people.get(draw() % people.size());
                if (one.kind != 5) {
                    one.pro = !one.pro;
                    changes++;
                }
            }
            year++;
        }

        int near(One one) {
            int sum = off(one);
            for (int f : one.friends) {
                sum += off(people.get(f));
            }
            return sum;
        }

        int minds() {
            int set = 0;
            for (int k = people.size() - 1; k >= 0; k--) {
                set = 2 * set + (people.get(k).pro ? 1 : 0);
            }
            return set;
        }

        void minds(int set) {
            for (int k = 0; k < people.size(); k++) {
                people.get(k).pro = set / (1 << k) % 2 == 1;
            }
        }

        /** All WAYS, the least number first. */
        List<Integer> ways() {
            List<Integer> list = new ArrayList<>();
            State c = copy();
            for (int set = 0; set < 1 << people.size(); set++) {
                c.minds(set);
                boolean fits = c.inOrder();
                for (int k = 0; k < people.size(); k++) {
                    fits &= people.get(k).kind != 5 || people.get(k).pro == c.people.get(k).pro;
                }
                if (fits) {
                    list.add(set);
                }
            }
            return list;
        }
    }

    // ---- what it holds

    private State s = new State();
    private State image = null;
    private final List<Integer> waiting = new ArrayList<>();
    private String tape = "";
    private final Integer[][] sheets = new Integer[4][];
    private final boolean[] floats = new boolean[4];
    private final Object[] slots = new Object[5];

    private boolean bad(int v, int least, int most) {
        return v < least || v > most;
    }

    private One one(int k) {
        return bad(k, 0, s.people.size() - 1) ? null : s.people.get(k);
    }

    int person(int kind, int mind, int price) {
        if (bad(kind, 0, 5) || bad(mind, 0, 1) || bad(price, 0, 99)) {
            return BAD;
        }
        return s.people.size() == 10 ? FULL : add(kind, mind, price);
    }

    private int add(int kind, int mind, int price) {
        One one = new One();
        one.kind = kind;
        one.pro = mind == 1;
        one.price = price;
        s.people.add(one);
        return s.people.size() - 1;
    }

    int told(int k, int what) {
        One one = one(k);
        if (one == null || bad(what, 0, 8)) {
            return BAD;
        }
        int friends = 0;
        for (int f : one.friends) {
            friends += 1 << f;
        }
        Person kind = KINDS[one.kind];
        int[] all = {one.kind, one.pro ? 1 : 0, one.price, one.purse, friends, s.off(one), s.dues(one),
            kind.asks(one.price), kind.worth(one.price)};
        return all[what];
    }

    private static boolean isOf(int kind, int wanted) {
        return KINDS[wanted].getClass().isInstance(KINDS[kind]);
    }

    int as(int k, int kind) {
        if (one(k) == null || bad(kind, 0, 5)) {
            return BAD;
        }
        return isOf(one(k).kind, kind) ? one(k).price : KIND;
    }

    int turns(int k, int kind) {
        if (one(k) == null || bad(kind, 0, 5)) {
            return BAD;
        }
        int was = one(k).kind;
        one(k).kind = kind;
        return was;
    }

    int set(int k, int what, int v) {
        One one = one(k);
        if (one == null || bad(what, 1, 3) || bad(v, what == 3 ? -9999 : 0, what == 1 ? 1 : what == 2 ? 99 : 9999)) {
            return BAD;
        }
        int was = told(k, what);
        if (what == 1) {
            one.pro = v == 1;
        } else if (what == 2) {
            one.price = v;
        } else {
            one.purse = v;
        }
        return was;
    }

    int friends(int a, int b, int on) {
        if (one(a) == null || one(b) == null || a == b || bad(on, 0, 1)) {
            return BAD;
        }
        int was = one(a).friends.contains(b) ? 1 : 0;
        befriend(s, a, b, on == 1);
        return was;
    }

    private static void befriend(State state, int a, int b, boolean on) {
        state.people.get(a).friends.remove(b);
        state.people.get(b).friends.remove(a);
        if (on) {
            state.people.get(a).friends.add(b);
            state.people.get(b).friends.add(a);
        }
    }

    int rule(int what, int v) {
        int[] most = {9, 2, 100};
        if (bad(what, 0, 2) || bad(v, 0, most[what])) {
            return BAD;
        }
        int was = count(2 + what);
        s.slack = what == 0 ? v : s.slack;
        s.mode = what == 1 ? v : s.mode;
        s.whim = what == 2 ? v : s.whim;
        return was;
    }

    int deal(int n) {
        if (bad(n, 1, 10)) {
            return BAD;
        }
        int came = 0;
        while (came < n && s.people.size() < 10) {
            int kind = s.draw() % 6;
            int mind = s.draw() % 2;
            add(kind, mind, s.draw() % 30);
            came++;
        }
        return came;
    }

    int seed(int v) {
        int was = s.z;
        s.z = v;
        return was;
    }

    int town(int what) {
        int unruly = 0;
        int odd = 0;
        for (int k = 0; k < s.people.size(); k++) {
            unruly += s.off(one(k)) > s.slack ? 1 << k : 0;
            odd += one(k).friends.size() % 2 << k;
        }
        int[] all = {s.off(), s.chest, s.changes, s.minds(), unruly, odd};
        return bad(what, 0, 5) ? BAD : all[what];
    }

    int ways() {
        return s.ways().size();
    }

    int minds(int what) {
        if (bad(what, 0, 3)) {
            return BAD;
        }
        int best = NONE;
        int least = Integer.MAX_VALUE;
        for (int set : s.ways()) {
            int v = 0;
            for (int k = 0; k < s.people.size(); k++) {
                boolean pro = set / (1 << k) % 2 == 1;
                boolean otherwise = pro != one(k).pro;
                v += what == 0 && otherwise ? 1 : what == 1 && otherwise ? told(k, 7) : 0;
                v += what == 2 && !pro ? 1 : what == 3 && pro ? 1 : 0;
            }
            if (v < least) {
                least = v;
                best = set;
            }
        }
        return best;
    }

    int freedom() {
        int set = 0;
        for (int k = 0; k < s.people.size(); k++) {
            boolean[] seen = new boolean[2];
            for (int way : s.ways()) {
                seen[way / (1 << k) % 2] = true;
            }
            set += seen[0] && seen[1] ? 1 << k : 0;
        }
        return set;
    }

    int together() {
        if (!s.inOrder()) {
            return NO;
        }
        int least = 99;
        for (int way : s.ways()) {
            int differ = Integer.toBinaryString(way ^ s.minds()).replace("0", "").length();
            least = differ > 0 && differ < least ? differ : least;
        }
        return least == 99 ? NONE : least;
    }

    int best(int on, int what) {
        if (bad(on, 0, 1) || bad(what, 0, 1)) {
            return BAD;
        }
        int two = NONE;
        int most = NONE;
        for (int number = 0; number < 1000; number++) {
            int a = number / 100;
            int b = number % 100;
            if (a < b && b < s.people.size() && one(a).friends.contains(b) == (on == 0)) {
                State c = s.copy();
                befriend(c, a, b, on == 1);
                int ways = c.ways().size();
                if (two == NONE || ways > most) {
                    two = number;
                    most = ways;
                }
            }
        }
        return what == 0 ? two : most;
    }

    int years(int n) {
        if (bad(n, 1, 100)) {
            return BAD;
        }
        int before = s.changes;
        for (int k = 0; k < n && s.year < 9999; k++) {
            s.year();
        }
        return s.changes - before;
    }

    int behind(int n, int what) {
        if (bad(n, 0, 100) || bad(what, 0, 3)) {
            return BAD;
        }
        State c = s.copy();
        for (int k = 0; k < n; k++) {
            c.year();
        }
        return new int[] {c.off(), c.chest, c.changes, c.minds()}[what];
    }

    int settles() {
        State c = s.copy();
        for (int n = 0; n < 201; n++, c.year()) {
            if (c.inOrder()) {
                return n;
            }
        }
        return NONE;
    }

    int won(int n, int what) {
        if (bad(n, 1, 60) || bad(what, 0, 1)) {
            return BAD;
        }
        int[] best = {NONE, NONE};
        for (int k = 0; k < s.people.size(); k++) {
            State c = s.copy();
            c.people.get(k).pro = !c.people.get(k).pro;
            for (int y = 0; y < n; y++) {
                c.year();
            }
            if (best[0] == NONE || c.off() < best[1]) {
                best[0] = k;
                best[1] = c.off();
            }
        }
        return best[what];
    }

    int lied(int sheet, int what) {
        if (bad(sheet, 0, 3) || bad(what, 0, 1)) {
            return BAD;
        }
        if (sheets[sheet] == null) {
            return NOTHING;
        }
        int[] best = {NONE, NONE};
        for (int k = 0; k < s.people.size(); k++) {
            State c = s.copy();
            c.people.get(k).pro = !c.people.get(k).pro;
            int sum = 0;
            for (int p = 0; p < sheets[sheet].length; p++) {
                int off = p < s.people.size() ? c.off(c.people.get(p)) : 0;
                sum += sheets[sheet][p] == null ? 0 : Math.abs(off - sheets[sheet][p]);
            }
            if (best[0] == NONE || sum < best[1]) {
                best[0] = k;
                best[1] = sum;
            }
        }
        return best[what];
    }

    int fee() {
        Text t = s.text(1);
        return t == null ? s.chest : t.tree.value(s.chest, s.year, 0);
    }

    int fine(int k) {
        Text t = s.text(2);
        if (one(k) == null) {
            return BAD;
        }
        return t == null ? s.off(one(k)) : t.tree.value(s.off(one(k)), one(k).purse, 0);
    }

    int feed(int a, int b, int c) {
        if (tape.length() > 84) {
            return FULL;
        }
        for (int v : new int[] {a, b, c}) {
            for (int k = 3; k >= 0; k--) {
                tape += (char) (v >> 8 * k & 255);
            }
        }
        return tape.length();
    }

    int trim(int n) {
        if (bad(n, 0, tape.length())) {
            return BAD;
        }
        tape = tape.substring(0, n);
        return n;
    }

    int text() {
        String all = tape;
        tape = "";
        List<Token> t = tokens(all);
        Text text = parse(t);
        if (text == null) {
            return -100 - faultOf(all, t);
        }
        if (s.texts.size() == 14) {
            return FULL;
        }
        s.texts.add(text);
        return s.texts.size() - 1;
    }

    int textTold(int text, int what) {
        if (bad(text, 0, s.texts.size() - 1) || bad(what, 0, 1)) {
            return BAD;
        }
        return what == 0 ? s.texts.get(text).key : s.texts.get(text).leaves;
    }

    int why(int key) {
        if (bad(key, 0, 2)) {
            return BAD;
        }
        int found = s.texts.lastIndexOf(s.text(key));
        return found < 0 ? NONE : found;
    }

    int sheet(int sheet, int sort, int n) {
        if (bad(sheet, 0, 3) || bad(sort, -1, 1) || (sort >= 0 && n > 24)) {
            return BAD;
        }
        if (sort >= 0 && n < 0) {
            return SIZE;
        }
        sheets[sheet] = null;
        if (sort < 0) {
            return 0;
        }
        sheets[sheet] = new Integer[n];
        java.util.Arrays.fill(sheets[sheet], 0);
        floats[sheet] = sort == 1;
        return n;
    }

    int mark(int sheet, int place, int v) {
        if (bad(sheet, 0, 3)) {
            return BAD;
        }
        if (sheets[sheet] == null) {
            return NOTHING;
        }
        if (bad(place, 0, sheets[sheet].length - 1)) {
            return INDEX;
        }
        if (!floats[sheet]) {
            if (v == NONE) {
                return KIND;
            }
            int low = Math.floorMod(v, 65536);
            sheets[sheet][place] = low > 32767 ? low - 65536 : low;
            return 1;
        }
        if (v != NONE && bad(v, -99999, 99999)) {
            return BAD;
        }
        sheets[sheet][place] = v == NONE ? null : (Integer) v;
        return 1;
    }

    int pour(int sheet) {
        if (bad(sheet, 0, 3)) {
            return BAD;
        }
        if (sheets[sheet] == null) {
            return NOTHING;
        }
        int otherwise = 0;
        for (int k = 0; k < s.people.size(); k++) {
            if (k < sheets[sheet].length && sheets[sheet][k] != null) {
                boolean pro = sheets[sheet][k] > 0;
                otherwise += pro == one(k).pro ? 0 : 1;
                one(k).pro = pro;
            }
        }
        return otherwise;
    }

    int reads(int sheet) {
        if (bad(sheet, 0, 3)) {
            return BAD;
        }
        if (sheets[sheet] == null) {
            return NOTHING;
        }
        for (int k = 0; k < sheets[sheet].length; k++) {
            if (sheets[sheet][k] != null && (one(k) == null || s.off(one(k)) != sheets[sheet][k])) {
                return k;
            }
        }
        return NONE;
    }

    int copy(int from, int place, int to, int at, int many) {
        if (bad(from, 0, 3) || bad(to, 0, 3)) {
            return BAD;
        }
        if (sheets[from] == null || sheets[to] == null) {
            return NOTHING;
        }
        if (floats[from] != floats[to]) {
            return KIND;
        }
        boolean there = many >= 0 && place >= 0 && at >= 0 && (long) place + many <= sheets[from].length
            && (long) at + many <= sheets[to].length;
        if (!there) {
            return INDEX;
        }
        Integer[] row = sheets[from].clone();
        for (int k = 0; k < many; k++) {
            sheets[to][at + k] = row[place + k];
        }
        return many;
    }

    private static int thing(Object held) {
        return held == null ? 0 : held instanceof One ? 1 : held instanceof Integer[] ? 2 : 3;
    }

    int lay(int slot, int thing, int k) {
        if (bad(slot, 0, 4) || bad(thing, 0, 3) || (thing == 1 && one(k) == null) || (thing == 2 && bad(k, 0, 3))) {
            return BAD;
        }
        if (thing == 2 && sheets[k] == null) {
            return NOTHING;
        }
        int was = thing(slots[slot]);
        slots[slot] = thing == 0 ? null : thing == 1 ? one(k).copy() : thing == 2 ? sheets[k].clone() : (Object) k;
        return was;
    }

    int ask(int slot, int kind) {
        if (bad(slot, 0, 4) || bad(kind, 0, 5)) {
            return BAD;
        }
        if (slots[slot] == null) {
            return NOTHING;
        }
        if (slots[slot] instanceof One one && isOf(one.kind, kind)) {
            return KINDS[one.kind].worth(one.price);
        }
        return KIND;
    }

    int item(int slot, int place) {
        if (bad(slot, 0, 4)) {
            return BAD;
        }
        if (slots[slot] == null) {
            return NOTHING;
        }
        if (!(slots[slot] instanceof Integer[] row)) {
            return KIND;
        }
        if (bad(place, 0, row.length - 1)) {
            return INDEX;
        }
        return row[place] == null ? KIND : row[place];
    }

    int rest(int slot, int n) {
        if (bad(slot, 0, 4)) {
            return BAD;
        }
        if (slots[slot] == null) {
            return NOTHING;
        }
        if (!(slots[slot] instanceof Integer v)) {
            return KIND;
        }
        return n == 0 ? NO : (int) (v - (long) v / n * n);
    }

    int tell(int v) {
        if (waiting.size() == 60) {
            return FULL;
        }
        waiting.add(v);
        return waiting.size();
    }

    /** THE YEARS TOLD of n YEARS; none, if there is no IMAGE. */
    List<Integer> yearsTold(int n) {
        List<Integer> row = new ArrayList<>();
        State c = image == null ? null : image.copy();
        for (int k = 0; c != null && k < n && c.year < 9999; k++) {
            c.year();
            row.add(c.minds());
            row.add(c.chest);
        }
        return row;
    }

    int check(int n) {
        List<Integer> told = new ArrayList<>(waiting);
        waiting.clear();
        if (bad(n, 1, 30)) {
            return BAD;
        }
        if (image == null) {
            return NO;
        }
        List<Integer> row = yearsTold(n);
        int right = 0;
        while (right < told.size() && right < row.size() && told.get(right).equals(row.get(right))) {
            right++;
        }
        return right == told.size() && right == row.size() ? 0 : 1 + right;
    }

    int keep() {
        image = s.copy();
        return image.people.size();
    }

    int back() {
        if (image == null) {
            return NO;
        }
        s = image.copy();
        return s.people.size();
    }

    int count(int what) {
        int pro = 0;
        for (One one : s.people) {
            pro += one.pro ? 1 : 0;
        }
        int[] all = {s.people.size(), s.year, s.slack, s.mode, s.whim, pro, s.texts.size(), waiting.size(), tape.length(), s.z};
        return bad(what, 0, 9) ? BAD : all[what];
    }
}

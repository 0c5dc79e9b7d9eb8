/**
 * A town in which by statute half of each one's friends must be for the bridge and half against it.
 * Everything that calls need is made with the object: no call makes an object or an array.
 */
public final class HalfFriends {
    public static final int BAD = -1000000001, NO = -1000000002, FULL = -1000000003, NONE = -1000000005, NOTHING = -1000000011, KIND = -1000000012, INDEX = -1000000013, SIZE = -1000000014;

    private static final int MOST_PEOPLE = 10, MOST_PRICE = 99, MOST_PURSE = 9999, MOST_DUES = 999;
    private static final int MOST_SLACK = 9, MOST_MODE = 2, MOST_WHIM = 100, LAST_YEAR = 9999;
    private static final int MOST_TEXTS = 14, MOST_BYTES = 96, MOST_OPEN = 8, MOST_DIGITS = 4;
    private static final int SHEETS = 4, SLOTS = 5, MOST_PLACES = 24, MOST_FLOAT = 99999, MOST_WAITING = 60;

    private static final int PERSON = 0, EVEN = 1, LEANING = 2, ODD = 3, FREE = 4, FIXED = 5, LAST_KIND = 5;
    private static final int DUES = 0, FEE = 1, FINE = 2;
    private static final int MISSING = -1, SHORTS = 0, FLOATS = 1;
    private static final int EMPTY = 0, ONE = 1, ROW = 2, NUMBER = 3;

    private final Book book = new Book();
    private final Town now = new Town(book);
    private final Town image = new Town(book);
    private final Town thought = new Town(book);
    private final Order order = new Order();
    private final Reader reader = new Reader();
    private final Row[] sheets = new Row[SHEETS];
    private final Slot[] slots = new Slot[SLOTS];
    private final int[] waiting = new int[MOST_WAITING];
    private int waits = 0;
    private boolean kept = false;

    public HalfFriends() {
        for (int k = 0; k < SHEETS; k++) {
            sheets[k] = new Row();
        }
        for (int k = 0; k < SLOTS; k++) {
            slots[k] = new Slot();
        }
    }

    // ---- people, friends

    public int person(int kind, int mind, int price) {
        if (outside(kind, PERSON, LAST_KIND) || outside(mind, 0, 1) || outside(price, 0, MOST_PRICE)) {
            return BAD;
        }
        if (now.size >= MOST_PEOPLE) {
            return FULL;
        }
        now.join(kind, mind, price);
        return now.size - 1;
    }

    public int told(int one, int what) {
        if (isNobody(one)) {
            return BAD;
        }
        switch (what) {
            case 0: return now.kind[one];
            case 1: return now.mindOf(one);
            case 2: return now.price[one];
            case 3: return now.purse[one];
            case 4: return now.circle[one];
            case 5: return now.offOf(one);
            case 6: return now.owes(one);
            case 7: return now.asks(one);
            case 8: return Kinds.worth(now.kind[one], now.price[one]);
            default: return BAD;
        }
    }

    public int as(int one, int kind) {
        if (isNobody(one) || outside(kind, PERSON, LAST_KIND)) {
            return BAD;
        }
        return Kinds.isOf(now.kind[one], kind) ? now.price[one] : KIND;
    }

    public int turns(int one, int kind) {
        if (isNobody(one) || outside(kind, PERSON, LAST_KIND)) {
            return BAD;
        }
        int was = now.kind[one];
        now.kind[one] = kind;
        return was;
    }

    public int set(int one, int what, int v) {
        if (isNobody(one)) {
            return BAD;
        }
        switch (what) {
            case 1: return setMind(one, v);
            case 2: return setPrice(one, v);
            case 3: return setPurse(one, v);
            default: return BAD;
        }
    }

    private int setMind(int one, int v) {
        if (outside(v, 0, 1)) {
            return BAD;
        }
        int was = now.mindOf(one);
        if (was != v) {
            now.flip(one);
        }
        return was;
    }

    private int setPrice(int one, int v) {
        if (outside(v, 0, MOST_PRICE)) {
            return BAD;
        }
        int was = now.price[one];
        now.price[one] = v;
        return was;
    }

    private int setPurse(int one, int v) {
        if (outside(v, -MOST_PURSE, MOST_PURSE)) {
            return BAD;
        }
        int was = now.purse[one];
        now.purse[one] = v;
        return was;
    }

    public int friends(int a, int b, int on) {
        if (isNobody(a) || isNobody(b) || a == b || outside(on, 0, 1)) {
            return BAD;
        }
        int was = now.areFriends(a, b) ? 1 : 0;
        if (was != on) {
            now.circle[a] ^= 1 << b;
            now.circle[b] ^= 1 << a;
        }
        return was;
    }

    public int rule(int what, int v) {
        int was;
        switch (what) {
            case 0:
                if (outside(v, 0, MOST_SLACK)) {
                    return BAD;
                }
                was = now.slack;
                now.slack = v;
                return was;
            case 1:
                if (outside(v, 0, MOST_MODE)) {
                    return BAD;
                }
                was = now.mode;
                now.mode = v;
                return was;
            case 2:
                if (outside(v, 0, MOST_WHIM)) {
                    return BAD;
                }
                was = now.whim;
                now.whim = v;
                return was;
            default:
                return BAD;
        }
    }

    public int deal(int n) {
        if (outside(n, 1, MOST_PEOPLE)) {
            return BAD;
        }
        int come = Math.min(n, MOST_PEOPLE - now.size);
        for (int k = 0; k < come; k++) {
            int kind = now.draw() % (LAST_KIND + 1);
            int mind = now.draw() % 2;
            int price = now.draw() % 30;
            now.join(kind, mind, price);
        }
        return come;
    }

    public int seed(int v) {
        int was = now.z;
        now.z = v;
        return was;
    }

    // ---- order

    public int town(int what) {
        switch (what) {
            case 0: return now.offTogether();
            case 1: return now.chest;
            case 2: return now.changes;
            case 3: return now.minds;
            case 4: return now.unruly(now.minds);
            case 5: return now.oddOnes();
            default: return BAD;
        }
    }

    public int ways() {
        order.scan(now);
        return order.howMany();
    }

    public int minds(int what) {
        if (outside(what, Order.FEWEST, Order.LEAST)) {
            return BAD;
        }
        order.scan(now);
        return order.chosen(now, what);
    }

    public int freedom() {
        order.scan(now);
        return order.free();
    }

    public int together() {
        if (now.unruly(now.minds) != 0) {
            return NO;
        }
        order.scan(now);
        return order.nearest(now.minds);
    }

    public int best(int on, int what) {
        if (outside(on, 0, 1) || outside(what, 0, 1)) {
            return BAD;
        }
        order.scan(now);
        int pair = NONE;
        int most = NONE;
        for (int a = 0; a < now.size; a++) {
            for (int b = a + 1; b < now.size; b++) {
                boolean fits = now.areFriends(a, b) == (on == 0);
                int with = fits ? order.howManyTurned(now, a, b) : NONE;
                if (with > most) {
                    most = with;
                    pair = 100 * a + b;
                }
            }
        }
        return what == 0 ? pair : most;
    }

    // ---- years

    public int years(int n) {
        if (outside(n, 1, 100)) {
            return BAD;
        }
        int before = now.changes;
        now.pass(Math.min(n, LAST_YEAR - now.year));
        return now.changes - before;
    }

    public int behind(int n, int what) {
        if (outside(n, 0, 100) || outside(what, 0, 3)) {
            return BAD;
        }
        thought.become(now);
        thought.pass(n);
        switch (what) {
            case 0: return thought.offTogether();
            case 1: return thought.chest;
            case 2: return thought.changes;
            default: return thought.minds;
        }
    }

    public int settles() {
        thought.become(now);
        for (int n = 0; n <= 200; n++) {
            if (thought.unruly(thought.minds) == 0) {
                return n;
            }
            thought.pass(1);
        }
        return NONE;
    }

    public int won(int n, int what) {
        if (outside(n, 1, 60) || outside(what, 0, 1)) {
            return BAD;
        }
        int who = NONE;
        int least = NONE;
        for (int one = 0; one < now.size; one++) {
            thought.become(now);
            thought.flip(one);
            thought.pass(n);
            int off = thought.offTogether();
            if (who == NONE || off < least) {
                least = off;
                who = one;
            }
        }
        return what == 0 ? who : least;
    }

    public int lied(int sheet, int what) {
        if (isNoSheet(sheet) || outside(what, 0, 1)) {
            return BAD;
        }
        if (sheets[sheet].isMissing()) {
            return NOTHING;
        }
        int who = NONE;
        int least = NONE;
        for (int one = 0; one < now.size; one++) {
            int differ = differences(sheets[sheet], now.minds ^ (1 << one));
            if (who == NONE || differ < least) {
                least = differ;
                who = one;
            }
        }
        return what == 0 ? who : least;
    }

    // The document: "places beyond all PEOPLE: 0", so a number there is held against 0 in place of OFF.
    private int differences(Row row, int minds) {
        int sum = 0;
        for (int k = 0; k < row.size; k++) {
            if (row.isNumber(k)) {
                int off = isNobody(k) ? 0 : now.off(k, minds);
                sum += Math.abs(off - row.places[k]);
            }
        }
        return sum;
    }

    public int fee() {
        int text = book.counts(FEE, now.texts);
        return text < 0 ? now.chest : book.gives(text, now.chest, now.year, 0);
    }

    public int fine(int one) {
        if (isNobody(one)) {
            return BAD;
        }
        int text = book.counts(FINE, now.texts);
        int off = now.offOf(one);
        return text < 0 ? off : book.gives(text, off, now.purse[one], 0);
    }

    // ---- texts

    public int feed(int a, int b, int c) {
        if (reader.length + 12 > MOST_BYTES) {
            return FULL;
        }
        reader.append(a);
        reader.append(b);
        reader.append(c);
        return reader.length;
    }

    public int trim(int n) {
        if (outside(n, 0, reader.length)) {
            return BAD;
        }
        reader.length = n;
        return n;
    }

    public int text() {
        boolean sound = reader.read();
        int fault = reader.start;
        reader.length = 0;
        if (!sound) {
            return -100 - fault;
        }
        if (now.texts >= MOST_TEXTS) {
            return FULL;
        }
        book.write(now.texts, reader);
        now.texts++;
        return now.texts - 1;
    }

    public int textTold(int text, int what) {
        if (outside(text, 0, now.texts - 1)) {
            return BAD;
        }
        switch (what) {
            case 0: return book.keys[text];
            case 1: return book.leaves[text];
            default: return BAD;
        }
    }

    public int why(int key) {
        if (outside(key, DUES, FINE)) {
            return BAD;
        }
        int text = book.counts(key, now.texts);
        return text < 0 ? NONE : text;
    }

    // ---- sheets, slots

    public int sheet(int sheet, int sort, int n) {
        if (isNoSheet(sheet) || outside(sort, MISSING, FLOATS)) {
            return BAD;
        }
        if (sort == MISSING) {
            sheets[sheet].begin(MISSING, 0);
            return 0;
        }
        if (n > MOST_PLACES) {
            return BAD;
        }
        if (n < 0) {
            return SIZE;
        }
        sheets[sheet].begin(sort, n);
        return n;
    }

    public int mark(int sheet, int place, int v) {
        if (isNoSheet(sheet)) {
            return BAD;
        }
        Row row = sheets[sheet];
        if (row.isMissing()) {
            return NOTHING;
        }
        if (row.hasNo(place)) {
            return INDEX;
        }
        if (row.sort == SHORTS) {
            if (v == NONE) {
                return KIND;
            }
            row.places[place] = (short) v;
            return 1;
        }
        if (v != NONE && outside(v, -MOST_FLOAT, MOST_FLOAT)) {
            return BAD;
        }
        row.places[place] = v;
        return 1;
    }

    public int pour(int sheet) {
        if (isNoSheet(sheet)) {
            return BAD;
        }
        Row row = sheets[sheet];
        if (row.isMissing()) {
            return NOTHING;
        }
        int otherwise = 0;
        int shared = Math.min(row.size, now.size);
        for (int k = 0; k < shared; k++) {
            boolean pro = row.places[k] > 0;
            if (row.isNumber(k) && pro != (now.mindOf(k) == 1)) {
                now.flip(k);
                otherwise++;
            }
        }
        return otherwise;
    }

    public int reads(int sheet) {
        if (isNoSheet(sheet)) {
            return BAD;
        }
        Row row = sheets[sheet];
        if (row.isMissing()) {
            return NOTHING;
        }
        for (int k = 0; k < row.size; k++) {
            if (row.isNumber(k) && (isNobody(k) || row.places[k] != now.offOf(k))) {
                return k;
            }
        }
        return NONE;
    }

    public int copy(int from, int place, int to, int at, int many) {
        if (isNoSheet(from) || isNoSheet(to)) {
            return BAD;
        }
        Row source = sheets[from];
        Row target = sheets[to];
        if (source.isMissing() || target.isMissing()) {
            return NOTHING;
        }
        if (source.sort != target.sort) {
            return KIND;
        }
        if (source.lacks(place, many) || target.lacks(at, many)) {
            return INDEX;
        }
        System.arraycopy(source.places, place, target.places, at, many);
        return many;
    }

    public int lay(int slot, int thing, int k) {
        if (isNoSlot(slot) || outside(thing, EMPTY, NUMBER)) {
            return BAD;
        }
        if ((thing == ONE && isNobody(k)) || (thing == ROW && isNoSheet(k))) {
            return BAD;
        }
        if (thing == ROW && sheets[k].isMissing()) {
            return NOTHING;
        }
        Slot into = slots[slot];
        int was = into.thing;
        into.thing = thing;
        if (thing == ONE) {
            into.kind = now.kind[k];
            into.price = now.price[k];
        } else if (thing == ROW) {
            into.row.become(sheets[k]);
        } else if (thing == NUMBER) {
            into.number = k;
        }
        return was;
    }

    public int ask(int slot, int kind) {
        if (isNoSlot(slot) || outside(kind, PERSON, LAST_KIND)) {
            return BAD;
        }
        int wrong = slots[slot].isNot(ONE);
        if (wrong != 0) {
            return wrong;
        }
        Slot from = slots[slot];
        return Kinds.isOf(from.kind, kind) ? Kinds.worth(from.kind, from.price) : KIND;
    }

    public int item(int slot, int place) {
        if (isNoSlot(slot)) {
            return BAD;
        }
        int wrong = slots[slot].isNot(ROW);
        if (wrong != 0) {
            return wrong;
        }
        Row row = slots[slot].row;
        if (row.hasNo(place)) {
            return INDEX;
        }
        return row.isNumber(place) ? row.places[place] : KIND;
    }

    public int rest(int slot, int n) {
        if (isNoSlot(slot)) {
            return BAD;
        }
        int wrong = slots[slot].isNot(NUMBER);
        if (wrong != 0) {
            return wrong;
        }
        return n == 0 ? NO : slots[slot].number % n;
    }

    // ---- rows, images

    public int tell(int v) {
        if (waits >= MOST_WAITING) {
            return FULL;
        }
        waiting[waits] = v;
        waits++;
        return waits;
    }

    public int check(int n) {
        int told = waits;
        waits = 0;
        if (outside(n, 1, 30)) {
            return BAD;
        }
        if (!kept) {
            return NO;
        }
        thought.become(image);
        int due = 2 * Math.min(n, LAST_YEAR - image.year);
        for (int k = 0; k < due; k++) {
            if (k % 2 == 0) {
                thought.pass(1);
            }
            int right = k % 2 == 0 ? thought.minds : thought.chest;
            if (k >= told || k >= MOST_WAITING || waiting[k] != right) {
                return k + 1;
            }
        }
        return told > due ? due + 1 : 0;
    }

    public int keep() {
        image.become(now);
        kept = true;
        return image.size;
    }

    public int back() {
        if (!kept) {
            return NO;
        }
        now.become(image);
        return now.size;
    }

    public int count(int what) {
        switch (what) {
            case 0: return now.size;
            case 1: return now.year;
            case 2: return now.slack;
            case 3: return now.mode;
            case 4: return now.whim;
            case 5: return Integer.bitCount(now.minds);
            case 6: return now.texts;
            case 7: return waits;
            case 8: return reader.length;
            case 9: return now.z;
            default: return BAD;
        }
    }

    // ---- tests of arguments

    private static boolean outside(int v, int least, int most) {
        return v < least || v > most;
    }

    private boolean isNobody(int one) {
        return outside(one, 0, now.size - 1);
    }

    private static boolean isNoSheet(int sheet) {
        return outside(sheet, 0, SHEETS - 1);
    }

    private static boolean isNoSlot(int slot) {
        return outside(slot, 0, SLOTS - 1);
    }

    /** What the KINDS of PEOPLE owe, ask and are worth. */
    private static final class Kinds {
        private static final int[] ABOVE = {-1, PERSON, PERSON, EVEN, LEANING, PERSON};

        static boolean isOf(int kind, int wanted) {
            int k = kind;
            for (int step = 0; step <= LAST_KIND && k >= 0 && k < ABOVE.length; step++) {
                if (k == wanted) {
                    return true;
                }
                k = ABOVE[k];
            }
            return false;
        }

        /** DUES of a KIND, if those as PERSON are told. */
        static int owes(int kind, int asPerson) {
            switch (kind) {
                case EVEN: return asPerson / 2;
                case ODD: return asPerson / 2 + 2;
                case LEANING:
                case FREE: return Math.max(asPerson - 4, 0);
                case FIXED: return 2 * asPerson;
                default: return asPerson;
            }
        }

        static int asks(int kind, int price) {
            switch (kind) {
                case EVEN: return price + 5;
                case ODD: return 2 * (price + 5);
                case LEANING: return price / 2;
                case FREE: return 0;
                default: return price;
            }
        }

        static int worth(int kind, int price) {
            switch (kind) {
                case EVEN: return price + 9;
                case ODD: return 2 * (price + 9);
                case LEANING: return 99 - price;
                case FREE: return 99 - price - 6;
                case FIXED: return 2;
                default: return price;
            }
        }
    }

    /** PEOPLE, rules and all else that an IMAGE keeps, and the YEARS that pass over them. */
    private static final class Town {
        private final Book book;
        final int[] kind = new int[MOST_PEOPLE];
        final int[] price = new int[MOST_PEOPLE];
        final int[] purse = new int[MOST_PEOPLE];
        final int[] circle = new int[MOST_PEOPLE];
        int size = 0;
        int minds = 0;
        int slack = 0;
        int mode = 0;
        int whim = 0;
        int chest = 0;
        int changes = 0;
        int year = 0;
        int z = 1;
        int texts = 0;

        Town(Book book) {
            this.book = book;
        }

        void become(Town other) {
            System.arraycopy(other.kind, 0, kind, 0, MOST_PEOPLE);
            System.arraycopy(other.price, 0, price, 0, MOST_PEOPLE);
            System.arraycopy(other.purse, 0, purse, 0, MOST_PEOPLE);
            System.arraycopy(other.circle, 0, circle, 0, MOST_PEOPLE);
            size = other.size;
            minds = other.minds;
            slack = other.slack;
            mode = other.mode;
            whim = other.whim;
            chest = other.chest;
            changes = other.changes;
            year = other.year;
            z = other.z;
            texts = other.texts;
        }

        void join(int newKind, int newMind, int newPrice) {
            if (size >= MOST_PEOPLE) {
                return;
            }
            kind[size] = newKind;
            price[size] = newPrice;
            purse[size] = 0;
            circle[size] = 0;
            minds |= newMind << size;
            size++;
        }

        int mindOf(int one) {
            return (minds >> one) & 1;
        }

        void flip(int one) {
            minds ^= 1 << one;
        }

        boolean areFriends(int a, int b) {
            return ((circle[a] >> b) & 1) == 1;
        }

        /** OFF of one that has these FRIENDS, with these minds of all. */
        static int offAmong(int circle, int mindsThen) {
            return Math.abs(2 * Integer.bitCount(circle & mindsThen) - Integer.bitCount(circle));
        }

        int off(int one, int mindsThen) {
            return offAmong(circle[one], mindsThen);
        }

        int offOf(int one) {
            return off(one, minds);
        }

        int offTogether() {
            int sum = 0;
            for (int one = 0; one < size; one++) {
                sum += offOf(one);
            }
            return sum;
        }

        /** Who is not IN ORDER with these minds of all, as a set. */
        int unruly(int mindsThen) {
            int set = 0;
            for (int one = 0; one < size; one++) {
                if (off(one, mindsThen) > slack) {
                    set |= 1 << one;
                }
            }
            return set;
        }

        int oddOnes() {
            int set = 0;
            for (int one = 0; one < size; one++) {
                set |= (Integer.bitCount(circle[one]) & 1) << one;
            }
            return set;
        }

        int fixedOnes() {
            int set = 0;
            for (int one = 0; one < size; one++) {
                if (kind[one] == FIXED) {
                    set |= 1 << one;
                }
            }
            return set;
        }

        /** DUES of one. */
        int owes(int one) {
            int off = offOf(one);
            int text = book.counts(DUES, texts);
            int asPerson = 3 * off;
            if (text >= 0) {
                asPerson = book.gives(text, off, Integer.bitCount(circle[one]), mindOf(one));
            }
            asPerson = Math.max(0, Math.min(asPerson, MOST_DUES));
            return Kinds.owes(kind[one], asPerson);
        }

        int asks(int one) {
            return Kinds.asks(kind[one], price[one]);
        }

        int draw() {
            z = z * 1103515245 + 12345;
            return z >>> 8;
        }

        void pass(int years) {
            for (int k = 0; k < years; k++) {
                payDues();
                persuade(lookedAt());
                haveWhim();
                year++;
            }
        }

        private void pay(int one, int sum) {
            purse[one] = Math.max(-MOST_PURSE, purse[one] - sum);
            chest += sum;
        }

        private void payDues() {
            for (int one = 0; one < size; one++) {
                if (offOf(one) > slack) {
                    pay(one, owes(one));
                }
            }
        }

        /** The one that is looked at in a YEAR by MODE, or -1. */
        private int lookedAt() {
            if (size == 0 || mode == 0) {
                return -1;
            }
            return mode == 1 ? worst() : draw() % size;
        }

        private int worst() {
            int who = -1;
            int greatest = 0;
            for (int one = 0; one < size; one++) {
                if (offOf(one) > greatest) {
                    greatest = offOf(one);
                    who = one;
                }
            }
            return who;
        }

        private void persuade(int one) {
            if (one < 0 || one >= size || kind[one] == FIXED) {
                return;
            }
            int concerned = circle[one] | (1 << one);
            if (offOfAll(concerned, minds ^ (1 << one)) < offOfAll(concerned, minds)) {
                flip(one);
                changes++;
                pay(one, asks(one));
            }
        }

        private int offOfAll(int set, int mindsThen) {
            int sum = 0;
            for (int one = 0; one < size; one++) {
                if (((set >> one) & 1) == 1) {
                    sum += off(one, mindsThen);
                }
            }
            return sum;
        }

        private void haveWhim() {
            if (size == 0 || draw() % 100 >= whim) {
                return;
            }
            int one = draw() % size;
            if (kind[one] != FIXED) {
                flip(one);
                changes++;
            }
        }
    }

    /** The minds of all with which all are IN ORDER. */
    private static final class Order {
        static final int FEWEST = 0, CHEAPEST = 1, MOST = 2, LEAST = 3;
        private static final int IMPOSSIBLE = -1;

        // For each minds of all: who is not in order then, or IMPOSSIBLE, if a fixed one would have changed.
        private final int[] unruly = new int[1 << MOST_PEOPLE];
        private int all = 1;

        void scan(Town town) {
            int fixed = town.fixedOnes();
            all = Math.min(1 << town.size, unruly.length);
            for (int minds = 0; minds < all; minds++) {
                boolean possible = ((minds ^ town.minds) & fixed) == 0;
                unruly[minds] = possible ? town.unruly(minds) : IMPOSSIBLE;
            }
        }

        int howMany() {
            int sum = 0;
            for (int minds = 0; minds < all; minds++) {
                if (unruly[minds] == 0) {
                    sum++;
                }
            }
            return sum;
        }

        int chosen(Town town, int what) {
            int best = NONE;
            int least = 0;
            for (int minds = 0; minds < all; minds++) {
                if (unruly[minds] == 0) {
                    int cost = cost(town, minds, what);
                    if (best == NONE || cost < least) {
                        least = cost;
                        best = minds;
                    }
                }
            }
            return best;
        }

        private static int cost(Town town, int minds, int what) {
            switch (what) {
                case FEWEST: return Integer.bitCount(minds ^ town.minds);
                case CHEAPEST: return priceOf(town, minds ^ town.minds);
                case MOST: return -Integer.bitCount(minds);
                default: return Integer.bitCount(minds);
            }
        }

        private static int priceOf(Town town, int changed) {
            int sum = 0;
            for (int one = 0; one < town.size; one++) {
                if (((changed >> one) & 1) == 1) {
                    sum += town.asks(one);
                }
            }
            return sum;
        }

        int free() {
            int ever = 0;
            int never = 0;
            for (int minds = 0; minds < all; minds++) {
                if (unruly[minds] == 0) {
                    ever |= minds;
                    never |= (all - 1) & ~minds;
                }
            }
            return ever & never;
        }

        int nearest(int now) {
            int least = NONE;
            for (int minds = 0; minds < all; minds++) {
                int changed = Integer.bitCount(minds ^ now);
                if (unruly[minds] == 0 && changed > 0 && (least == NONE || changed < least)) {
                    least = changed;
                }
            }
            return least;
        }

        /** How many WAYS there are, if a and b are FRIENDS where they are not, or not where they are. */
        int howManyTurned(Town town, int a, int b) {
            int others = ~((1 << a) | (1 << b));
            int ofA = town.circle[a] ^ (1 << b);
            int ofB = town.circle[b] ^ (1 << a);
            int sum = 0;
            for (int minds = 0; minds < all; minds++) {
                if (unruly[minds] != IMPOSSIBLE && (unruly[minds] & others) == 0
                        && Town.offAmong(ofA, minds) <= town.slack && Town.offAmong(ofB, minds) <= town.slack) {
                    sum++;
                }
            }
            return sum;
        }
    }

    /** The TEXTS, each as a row of steps: a NUMBER as it is, all else as a number below 0. */
    private static final class Book {
        static final int FIRST_NAME = -1, SECOND_NAME = -2, THIRD_NAME = -3, NOT = -4;

        final int[] keys = new int[MOST_TEXTS];
        final int[] leaves = new int[MOST_TEXTS];
        private final int[] lengths = new int[MOST_TEXTS];
        private final int[][] steps = new int[MOST_TEXTS][MOST_BYTES];
        private final int[] stack = new int[MOST_BYTES];

        void write(int text, Reader from) {
            if (text < 0 || text >= MOST_TEXTS) {
                return;
            }
            keys[text] = from.key;
            leaves[text] = from.leaves;
            lengths[text] = from.stepCount;
            System.arraycopy(from.steps, 0, steps[text], 0, MOST_BYTES);
        }

        /** Of so many TEXTS the one that counts for a KEY, or -1. */
        int counts(int key, int texts) {
            for (int text = Math.min(texts, MOST_TEXTS) - 1; text >= 0; text--) {
                if (keys[text] == key) {
                    return text;
                }
            }
            return -1;
        }

        int gives(int text, int first, int second, int third) {
            if (text < 0 || text >= MOST_TEXTS) {
                return 0;
            }
            int[] row = steps[text];
            int high = 0;
            for (int k = 0; k < lengths[text] && k < row.length; k++) {
                int step = row[k];
                if (step >= NOT) {
                    if (step != NOT && high < stack.length) {
                        stack[high] = leaf(step, first, second, third);
                        high++;
                    } else if (step == NOT && high > 0) {
                        stack[high - 1] = stack[high - 1] == 0 ? 1 : 0;
                    }
                } else if (high > 1) {
                    high--;
                    stack[high - 1] = joined(-step, stack[high - 1], stack[high]);
                }
            }
            return stack[0];
        }

        private static int leaf(int step, int first, int second, int third) {
            switch (step) {
                case FIRST_NAME: return first;
                case SECOND_NAME: return second;
                case THIRD_NAME: return third;
                default: return step;
            }
        }

        private static int joined(int sign, int left, int right) {
            switch (sign) {
                case '|': return left != 0 || right != 0 ? 1 : 0;
                case '&': return left != 0 && right != 0 ? 1 : 0;
                case '<': return left < right ? 1 : 0;
                case '=': return left == right ? 1 : 0;
                case '>': return left > right ? 1 : 0;
                case '+': return left + right;
                case '-': return left - right;
                case '*': return left * right;
                default: return right == 0 ? 0 : left / right;
            }
        }
    }

    /** THE TAPE, and the reading of it, one word or sign after the other. */
    private static final class Reader {
        private static final String DUES_WORD = "dues", FEE_WORD = "fee", FINE_WORD = "fine";
        private static final String DUES_NAMES = "ofm", FEE_NAMES = "cy", FINE_NAMES = "op";
        // The signs that join two sides, the loosest level first; what binds closest is a piece.
        private static final String OR = "|", AND = "&", TEST = "<=>", SUM = "+-", TERM = "*/";
        private static final int LOOSEST = 0, TEST_LEVEL = 2, CLOSEST = 4;
        private static final int NO_BYTE = 0, SIGN = 1, LETTER = 2, DIGIT = 3;

        private final int[] tape = new int[MOST_BYTES];
        final int[] steps = new int[MOST_BYTES];
        int length = 0;
        int start = 0;
        private int end = 0;
        private boolean glued = false;
        int key = DUES;
        int leaves = 0;
        int stepCount = 0;

        void append(int four) {
            for (int shift = 24; shift >= 0 && length < MOST_BYTES; shift -= 8) {
                tape[length] = (four >>> shift) & 255;
                length++;
            }
        }

        /** Whether THE TAPE is a TEXT; if it is not, start is the place of its FAULT. */
        boolean read() {
            start = 0;
            end = 0;
            leaves = 0;
            stepCount = 0;
            next();
            key = keyHere();
            if (key < 0) {
                return false;
            }
            next();
            return level(LOOSEST, 0, 0) && start >= length;
        }

        private void next() {
            int behind = end;
            int before = sortAt(behind - 1);
            start = behind;
            while (start < length && tape[start] == ' ') {
                start++;
            }
            int here = sortAt(start);
            end = here == NO_BYTE ? start : start + 1;
            while (here > SIGN && end < length && sortAt(end) == here) {
                end++;
            }
            glued = before > SIGN && here > SIGN && start == behind;
        }

        private int sortAt(int place) {
            if (place < 0 || place >= length) {
                return NO_BYTE;
            }
            int v = tape[place];
            if (v >= 'a' && v <= 'z') {
                return LETTER;
            }
            return v >= '0' && v <= '9' ? DIGIT : SIGN;
        }

        private int keyHere() {
            if (isHere(DUES_WORD)) {
                return DUES;
            }
            if (isHere(FEE_WORD)) {
                return FEE;
            }
            return isHere(FINE_WORD) ? FINE : -1;
        }

        private boolean isHere(String word) {
            if (end - start != word.length()) {
                return false;
            }
            for (int k = 0; k < word.length() && start + k < tape.length; k++) {
                if (tape[start + k] != word.charAt(k)) {
                    return false;
                }
            }
            return true;
        }

        /** Whether a sign stands here that joins sides on this level. */
        private boolean joinsHere(int level) {
            if (start >= length) {
                return false;
            }
            return signsOf(level).indexOf((char) tape[start]) >= 0;
        }

        private static String signsOf(int level) {
            switch (level) {
                case 0: return OR;
                case 1: return AND;
                case 2: return TEST;
                case 3: return SUM;
                default: return TERM;
            }
        }

        private boolean level(int level, int parens, int nots) {
            if (!side(level, parens, nots)) {
                return false;
            }
            for (int sides = 0; sides < MOST_BYTES && joinsHere(level); sides++) {
                int sign = tape[start];
                next();
                if (!side(level, parens, nots)) {
                    return false;
                }
                put(-sign);
                if (level == TEST_LEVEL) {
                    break;
                }
            }
            return true;
        }

        /** What stands on either side of a sign of this level: all that binds closer. */
        private boolean side(int level, int parens, int nots) {
            return level < CLOSEST ? level(level + 1, parens, nots) : piece(parens, nots);
        }

        private boolean piece(int parens, int nots) {
            if (start >= length || glued) {
                return false;
            }
            if (tape[start] == '!') {
                return nots < MOST_OPEN && negated(parens, nots + 1);
            }
            if (tape[start] == '(') {
                return parens < MOST_OPEN && enclosed(parens + 1, nots);
            }
            return sortAt(start) == DIGIT ? number() : name();
        }

        private boolean negated(int parens, int nots) {
            next();
            if (!piece(parens, nots)) {
                return false;
            }
            put(Book.NOT);
            return true;
        }

        private boolean enclosed(int parens, int nots) {
            next();
            if (!level(LOOSEST, parens, nots) || start >= length || tape[start] != ')') {
                return false;
            }
            next();
            return true;
        }

        private boolean number() {
            if (end - start > MOST_DIGITS) {
                return false;
            }
            int v = 0;
            for (int k = start; k < end; k++) {
                v = 10 * v + tape[k] - '0';
            }
            put(v);
            leaves++;
            next();
            return true;
        }

        private boolean name() {
            String names = key == DUES ? DUES_NAMES : key == FEE ? FEE_NAMES : FINE_NAMES;
            int which = end - start == 1 ? names.indexOf((char) tape[start]) : -1;
            if (which < 0) {
                return false;
            }
            put(Book.FIRST_NAME - which);
            leaves++;
            next();
            return true;
        }

        private void put(int step) {
            if (stepCount < steps.length) {
                steps[stepCount] = step;
                stepCount++;
            }
        }
    }

    /** A row of places: a SHEET, or what a SLOT keeps of one. NO NUMBER is held as NONE. */
    private static final class Row {
        final int[] places = new int[MOST_PLACES];
        int sort = MISSING;
        int size = 0;

        void begin(int newSort, int newSize) {
            sort = newSort;
            size = newSize;
            for (int k = 0; k < MOST_PLACES; k++) {
                places[k] = 0;
            }
        }

        void become(Row other) {
            sort = other.sort;
            size = other.size;
            System.arraycopy(other.places, 0, places, 0, MOST_PLACES);
        }

        boolean isMissing() {
            return sort == MISSING;
        }

        boolean hasNo(int place) {
            return place < 0 || place >= size;
        }

        boolean lacks(int place, int many) {
            return place < 0 || many < 0 || place > size - many;
        }

        boolean isNumber(int place) {
            return !hasNo(place) && places[place] != NONE;
        }
    }

    /** What was laid somewhere, as it was then. */
    private static final class Slot {
        final Row row = new Row();
        int thing = EMPTY;
        int kind = PERSON;
        int price = 0;
        int number = 0;

        /** 0, if it holds such a thing, or the FINDING. */
        int isNot(int wanted) {
            if (thing == EMPTY) {
                return NOTHING;
            }
            return thing == wanted ? 0 : KIND;
        }
    }
}

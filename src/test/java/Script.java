import java.nio.charset.StandardCharsets;

/**
 * An object of HalfFriends whose calls are told in words, "person 0 1 5", and counted: beyond 512 calls an object's
 * answers are free. "law WORDS" puts the words on the empty tape, to the byte, and tells them as a TEXT.
 */
final class Script {
    static final String[] CALLS = {"person", "told", "as", "turns", "set", "friends", "rule", "deal", "seed",
        "town", "ways", "minds", "freedom", "together", "best", "years", "behind", "settles", "won", "lied", "fee", "fine",
        "feed", "trim", "text", "textTold", "why", "sheet", "mark", "pour", "reads", "copy", "lay", "ask", "item", "rest",
        "tell", "check", "keep", "back", "count"};
    static final int MOST_CALLS = 512;

    private final HalfFriends x = new HalfFriends();
    private final StringBuilder said = new StringBuilder();
    private int calls = 0;

    /** Calls of which the answers are looked at elsewhere. */
    static Script of(String... lines) {
        return new Script().go(lines);
    }

    Script go(String... lines) {
        for (String line : lines) {
            call(line);
        }
        return this;
    }

    /** A call and the answer that is due. */
    Script then(String line, int want) {
        String before = said.length() > 300 ? ".. " + said.substring(said.length() - 300) : said.toString();
        Due.due(before + line, call(line), want);
        return this;
    }

    int call(String line) {
        said.append(line).append("; ");
        if (line.startsWith("law ")) {
            tape(line.substring(4));
            return made("text", new int[5]);
        }
        if (line.startsWith("tape ")) {
            return tape(line.substring(5));
        }
        String[] words = line.split(" ");
        int[] a = new int[5];
        for (int k = 1; k < words.length; k++) {
            a[k - 1] = number(words[k]);
        }
        return made(words[0], a);
    }

    int calls() {
        return calls;
    }

    private int tape(String text) {
        byte[] bytes = text.getBytes(StandardCharsets.ISO_8859_1);
        for (int k = 0; k < bytes.length; k += 12) {
            made("feed", new int[] {Due.four(bytes, k), Due.four(bytes, k + 4), Due.four(bytes, k + 8), 0, 0});
        }
        return made("trim", new int[] {bytes.length, 0, 0, 0, 0});
    }

    private int made(String name, int[] a) {
        calls++;
        if (calls > MOST_CALLS) {
            Due.due("calls of one object: " + said, calls, MOST_CALLS);
        }
        return on(x, name, a);
    }

    private static int number(String word) {
        switch (word) {
            case "LOW": return Due.LOW;
            case "HIGH": return Due.HIGH;
            case "NONE": return Due.NONE;
            default: return Integer.parseInt(word);
        }
    }

    static int on(HalfFriends x, String name, int[] a) {
        switch (name) {
            case "person": return x.person(a[0], a[1], a[2]);
            case "told": return x.told(a[0], a[1]);
            case "as": return x.as(a[0], a[1]);
            case "turns": return x.turns(a[0], a[1]);
            case "set": return x.set(a[0], a[1], a[2]);
            case "friends": return x.friends(a[0], a[1], a[2]);
            case "rule": return x.rule(a[0], a[1]);
            case "deal": return x.deal(a[0]);
            case "seed": return x.seed(a[0]);
            case "town": return x.town(a[0]);
            case "ways": return x.ways();
            case "minds": return x.minds(a[0]);
            case "freedom": return x.freedom();
            case "together": return x.together();
            case "best": return x.best(a[0], a[1]);
            case "years": return x.years(a[0]);
            case "behind": return x.behind(a[0], a[1]);
            case "settles": return x.settles();
            case "won": return x.won(a[0], a[1]);
            case "lied": return x.lied(a[0], a[1]);
            case "fee": return x.fee();
            case "fine": return x.fine(a[0]);
            case "feed": return x.feed(a[0], a[1], a[2]);
            case "trim": return x.trim(a[0]);
            case "text": return x.text();
            case "textTold": return x.textTold(a[0], a[1]);
            case "why": return x.why(a[0]);
            case "sheet": return x.sheet(a[0], a[1], a[2]);
            case "mark": return x.mark(a[0], a[1], a[2]);
            case "pour": return x.pour(a[0]);
            case "reads": return x.reads(a[0]);
            case "copy": return x.copy(a[0], a[1], a[2], a[3], a[4]);
            case "lay": return x.lay(a[0], a[1], a[2]);
            case "ask": return x.ask(a[0], a[1]);
            case "item": return x.item(a[0], a[1]);
            case "rest": return x.rest(a[0], a[1]);
            case "tell": return x.tell(a[0]);
            case "check": return x.check(a[0]);
            case "keep": return x.keep();
            case "back": return x.back();
            case "count": return x.count(a[0]);
            default: throw new IllegalArgumentException(name);
        }
    }
}

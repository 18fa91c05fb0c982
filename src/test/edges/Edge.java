import java.lang.reflect.InvocationTargetException;
import java.lang.reflect.Method;
import java.util.Arrays;
import java.util.Comparator;
import java.util.Set;
import java.util.TreeSet;
import java.util.function.Supplier;

/** What the tests of edges share: texts for the tape, scenes, all that an object tells, and how the tests are run. */
final class Edge {
    static final String BOOKS = "das haus=the house;das buch=the book;ein buch=a book";

    /** Ints that no call takes for a number of something: far below, far above, and where a sum would wrap around. */
    static final int[] ODD = {
        Integer.MIN_VALUE, Integer.MIN_VALUE + 1, Integer.MIN_VALUE + 10, -100000, -256, -2,
        100001, 65536, Integer.MAX_VALUE - 10, Integer.MAX_VALUE - 1, Integer.MAX_VALUE
    };

    private static int wrong = 0;
    private static String test = "";

    private Edge() {
    }

    /** A call whose answer counts as a number: a boolean 1 or 0. */
    interface Call {
        long of(WordLinks x);
    }

    // ---- what is due

    static void due(String call, long got, long want) {
        if (got != want) {
            wrong++;
            System.out.println(test + ": " + call + " answered " + got + ", due is " + want);
        }
    }

    static void due(String call, boolean got, boolean want) {
        due(call, got ? 1 : 0, want ? 1 : 0);
    }

    static void due(String call, String got, String want) {
        if (!got.equals(want)) {
            wrong++;
            System.out.println(test + ": " + call + " tells\n  " + got + "\ndue is\n  " + want);
        }
    }

    /** The call answers so, and nothing is other behind it: not the tape, either. */
    static void leavesAll(Supplier<WordLinks> scene, String call, long want, Call asked) {
        WordLinks x = scene.get();
        due(call, asked.of(x), want);
        due("all behind " + call, look(x), look(scene.get()));
    }

    static void leavesAll(String call, long want, Call asked) {
        leavesAll(Edge::scene, call, want, asked);
    }

    /** The call, with the text on the tape, answers so; the tape is empty then, and nothing else is other. */
    static void leavesAllButTape(Supplier<WordLinks> scene, String text, String call, long want, Call asked) {
        WordLinks x = scene.get();
        emptyTape(x);
        put(x, text);
        due(call + " of \"" + text + "\"", asked.of(x), want);
        WordLinks y = scene.get();
        emptyTape(y);
        due("all behind " + call + " of \"" + text + "\"", look(x), look(y));
    }

    static void leavesAllButTape(String text, String call, long want, Call asked) {
        leavesAllButTape(Edge::scene, text, call, want, asked);
    }

    // ---- texts

    /** Feeds a text, with x behind it up to whole twenties: how many bytes it has itself. */
    static int put(WordLinks x, String text) {
        for (int at = 0; at < text.length(); at += 20) {
            int[] five = new int[5];
            for (int k = 0; k < 20; k++) {
                int sign = at + k < text.length() ? text.charAt(at + k) : 'x';
                five[k / 4] = five[k / 4] << 8 | sign;
            }
            x.feed(five[0], five[1], five[2], five[3], five[4]);
        }
        return text.length();
    }

    static int pairs(WordLinks x, String text) {
        return x.pairs(put(x, text));
    }

    static int sheets(WordLinks x, String text) {
        return x.sheets(put(x, text));
    }

    static int find(WordLinks x, int side, String text) {
        return x.find(side, put(x, text));
    }

    static int over(WordLinks x, int kind, String text, int what) {
        return x.over(kind, put(x, text), what);
    }

    static int check(WordLinks x, int... places) {
        StringBuilder b = new StringBuilder();
        for (int place : places) {
            b.append((char) place);
        }
        return x.check(put(x, b.toString()));
    }

    static void emptyTape(WordLinks x) {
        x.check(0);
    }

    static String times(String text, int n, String between) {
        StringBuilder b = new StringBuilder();
        for (int k = 0; k < n; k++) {
            b.append(k == 0 ? "" : between).append(text);
        }
        return b.toString();
    }

    /** A word of two letters for each number below 676. */
    static String named(int k) {
        return "" + (char) ('a' + k / 26) + (char) ('a' + k % 26);
    }

    /** The words of numbers from..to (not it), with blanks between. */
    static String row(int from, int to) {
        StringBuilder b = new StringBuilder();
        for (int k = from; k < to; k++) {
            b.append(k == from ? "" : " ").append(named(k));
        }
        return b.toString();
    }

    // ---- objects

    static WordLinks with(String text) {
        WordLinks x = new WordLinks();
        pairs(x, text);
        return x;
    }

    static WordLinks byLetters(String text) {
        WordLinks x = with(text);
        x.byLetters(true);
        return x;
    }

    /** An object with something of everything: pairs, sheets, rounds, settings, told links, a tape, a state kept. */
    static WordLinks scene() {
        WordLinks x = with("das haus=the house;das=the");
        sheets(x, "ab,c|cd");
        x.least(777);
        x.tell(0, 1, 0, true);
        x.rounds(0, 1);
        x.keep();
        x.drop();
        pairs(x, "das buch=the book;ein buch=a book");
        sheets(x, "neu,alt bau|new,old");
        x.byLetters(true);
        x.placed(true);
        x.rounds(0, 2);
        x.rounds(1, 1);
        x.least(20000);
        x.tell(0, 0, 0, true);
        x.tell(2, 1, 1, true);
        put(x, "neu haus=new housing");
        return x;
    }

    /** As many pairs as told, the words of side 0 and 1 as many as told (at least 1, at most 40). */
    static WordLinks sized(int pairs, int words0, int words1) {
        WordLinks x = new WordLinks();
        int made = 0;
        for (int at = 0; at < words0 || at < words1; at += 6) {
            String one = at < words0 ? row(at, Math.min(at + 6, words0)) : named(0);
            String other = at < words1 ? row(at, Math.min(at + 6, words1)) : named(0);
            pairs(x, one + "=" + other);
            made++;
        }
        while (made < pairs) {
            int more = Math.min(pairs - made, 12);
            pairs(x, times(named(0) + "=" + named(0), more, ";"));
            made += more;
        }
        return x;
    }

    /** The links of a pair of l words on side 0, as (i,j) one behind the other. */
    static String links(WordLinks x, int kind, int pair, int l) {
        StringBuilder b = new StringBuilder();
        for (int i = 0; i < l; i++) {
            int bits = x.links(kind, pair, i);
            for (int j = 0; j < 6; j++) {
                if ((bits >> j & 1) != 0) {
                    b.append('(').append(i).append(',').append(j).append(')');
                }
            }
        }
        return b.toString();
    }

    /** One pair of so many words on each side, all of them unlike. */
    static WordLinks onePair(int l, int m) {
        return with(row(0, l) + "=" + row(100, 100 + m));
    }

    // ---- all that an object tells; it is of no use behind that

    static String look(WordLinks x) {
        StringBuilder b = new StringBuilder();
        lookAtState(x, b);
        lookAtTape(x, b);
        lookAtSheets(x, b);
        b.append(" undo ").append(x.undo());
        lookAtState(x, b);
        lookAtSheets(x, b);
        return b.toString();
    }

    private static void lookAtState(WordLinks x, StringBuilder b) {
        for (int what = 0; what < 4; what++) {
            b.append(" count ").append(x.count(what));
        }
        for (int way = 0; way < 2; way++) {
            b.append(" near");
            for (int k = 0; k < 8; k++) {
                b.append(' ').append(x.near(way, k));
            }
        }
        for (int side = 0; side < 2; side++) {
            lookAtWords(x, side, b);
        }
        lookAtPairs(x, b);
        b.append(" matched");
        for (int what = 0; what < 4; what++) {
            b.append(' ').append(x.matched(what));
        }
        b.append(" placed ").append(x.placed(true)).append(" by letters ").append(x.byLetters(true));
    }

    /** Of few words all letters and shares, of many the greatest share of each: so that the calls stay few. */
    private static void lookAtWords(WordLinks x, int side, StringBuilder b) {
        int words = x.side(side, 0);
        int others = x.side(1 - side, 0);
        b.append(" words of ").append(side).append(':');
        for (int word = 0; word < words; word++) {
            b.append(' ');
            if (words * others > 36) {
                b.append(x.word(side, word, 6)).append('/').append(x.word(side, word, 4));
                continue;
            }
            lookAtLetters(x, side, word, b);
            for (int to = 0; to < others; to++) {
                b.append('/').append(x.share(side, word, to));
            }
        }
    }

    private static void lookAtLetters(WordLinks x, int side, int word, StringBuilder b) {
        int letters = x.word(side, word, 0);
        for (int k = 0; k < letters; k++) {
            b.append((char) x.word(side, word, 10 + k));
        }
    }

    private static void lookAtPairs(WordLinks x, StringBuilder b) {
        int pairs = x.count(0);
        for (int pair = 0; pair < pairs; pair++) {
            b.append(" pair ");
            if (pairs > 4) {
                b.append(x.fit(0, pair)).append('/').append(x.fit(1, pair));
                continue;
            }
            int l = lookAtSentence(x, pair, 0, b);
            int m = lookAtSentence(x, pair, 1, b);
            b.append(" told");
            for (int i = 0; i < l; i++) {
                for (int j = 0; j < m; j++) {
                    b.append(x.tell(pair, i, j, true) == -2 ? '1' : '0');
                }
            }
        }
    }

    private static int lookAtSentence(WordLinks x, int pair, int side, StringBuilder b) {
        int place = 0;
        for (int word = x.at(pair, side, 0); word >= 0; word = x.at(pair, side, place)) {
            b.append(word).append(side == 0 ? '<' : '>');
            place++;
        }
        return place;
    }

    /** The tapes of scenes are texts of pairs up to their last byte; where there are too many pairs one goes first. */
    private static void lookAtTape(WordLinks x, StringBuilder b) {
        int bytes = x.count(2);
        if (bytes == 0) {
            b.append(" tape is empty");
            return;
        }
        if (x.count(0) == 24) {
            x.drop();
        }
        int pairs = x.pairs(Math.min(bytes, 200));
        b.append(" tape as pairs ").append(pairs).append(':');
        for (int side = 0; side < 2 && pairs > 0; side++) {
            for (int place = 0; x.at(pairs - 1, side, place) >= 0; place++) {
                b.append(' ');
                lookAtLetters(x, side, x.at(pairs - 1, side, place), b);
            }
        }
    }

    private static void lookAtSheets(WordLinks x, StringBuilder b) {
        int before = x.count(0);
        int pairs = x.joins();
        b.append(" joined ").append(pairs).append(':');
        for (int pair = before; pair < pairs; pair++) {
            for (int side = 0; side < 2; side++) {
                for (int place = 0; x.at(pair, side, place) >= 0; place++) {
                    b.append(' ');
                    lookAtLetters(x, side, x.at(pair, side, place), b);
                }
            }
        }
    }

    // ---- the tests are run

    /** Every static method whose name begins with "promise" and two digits is a test; each promise must have some. */
    static void run(Class<?>... groups) {
        Set<Integer> promises = new TreeSet<>();
        int tests = 0;
        for (Class<?> group : groups) {
            Method[] methods = group.getDeclaredMethods();
            Arrays.sort(methods, Comparator.comparing(Method::getName));
            for (Method method : methods) {
                if (method.getName().startsWith("promise")) {
                    promises.add(Integer.parseInt(method.getName().substring(7, 9)));
                    runOne(method);
                    tests++;
                }
            }
        }
        for (int promise = 1; promise <= 40; promise++) {
            if (!promises.contains(promise)) {
                wrong++;
                System.out.println("promise " + promise + " has no test");
            }
        }
        System.out.println(tests + " tests of edges, " + (wrong == 0 ? "all answers are as due" : wrong + " wrong"));
        if (wrong != 0) {
            System.exit(1);
        }
    }

    private static void runOne(Method method) {
        test = method.getName();
        try {
            method.setAccessible(true);
            method.invoke(null);
        } catch (InvocationTargetException e) {
            wrong++;
            System.out.println(test + " threw " + e.getCause());
        } catch (IllegalAccessException e) {
            throw new IllegalStateException(e);
        }
    }
}

import java.math.BigInteger;
import java.util.ArrayList;
import java.util.Arrays;
import java.util.Collections;
import java.util.Comparator;
import java.util.HashMap;
import java.util.LinkedHashSet;
import java.util.List;
import java.util.Map;
import java.util.Set;
import java.util.TreeMap;
import java.util.TreeSet;
import java.util.regex.Matcher;
import java.util.regex.Pattern;

/** Long made-up runs on WordLinks and on a second, slow telling of the document made of lists and maps. */
public final class OracleTest {
    private static int wrong = 0;
    private static long seed;

    public static void main(String[] args) {
        int runs = args.length > 0 ? Integer.parseInt(args[0]) : 160;
        for (int run = 1; run <= runs && wrong < 20; run++) {
            seed = run * 7919L + 13;
            oneRun(run);
        }
        System.out.println(wrong == 0 ? "all answers are alike" : wrong + " answers are not alike");
        if (wrong != 0) {
            System.exit(1);
        }
    }

    private static int pick(int n) {
        seed = seed * 6364136223846793005L + 1442695040888963407L;
        return (int) ((seed >>> 33) % n);
    }

    private static boolean chance(int percent) {
        return pick(100) < percent;
    }

    private static void oneRun(int run) {
        WordLinks x = new WordLinks();
        Model m = new Model();
        // with many words and pairs the limits of both are met
        boolean isFull = run % 8 == 0;
        String[][] stock = {words(isFull ? 60 : 3 + pick(12)), words(isFull ? 60 : 3 + pick(12))};
        int calls = 512;
        // the dearest step makes 41 calls: a text of ten feeds, sheets, all that is matched
        while (calls > 41) {
            calls -= oneStep(run, x, m, stock);
            if (wrong >= 20) {
                return;
            }
        }
    }

    private static String[] words(int n) {
        String[] made = new String[n];
        int letters = 2 + pick(5);
        for (int k = 0; k < n; k++) {
            StringBuilder b = new StringBuilder();
            int length = 1 + pick(chance(20) ? 7 : 3);
            for (int i = 0; i < length; i++) {
                b.append((char) ('a' + (chance(5) ? pick(26) : pick(letters))));
            }
            made[k] = b.toString();
        }
        return made;
    }

    private static String sentence(String[] stock, int most) {
        int n = 1 + pick(most);
        StringBuilder b = new StringBuilder();
        for (int k = 0; k < n; k++) {
            b.append(k == 0 ? "" : " ").append(stock[pick(stock.length)]);
        }
        return b.toString();
    }

    private static String spoiled(String text) {
        StringBuilder b = new StringBuilder(text);
        String signs = "abz =;,|A\u00e9`{";
        int times = 1 + pick(2);
        for (int k = 0; k < times && b.length() > 0; k++) {
            int at = pick(b.length());
            char sign = signs.charAt(pick(signs.length()));
            switch (pick(4)) {
                case 0: b.setCharAt(at, sign); break;
                case 1: b.insert(at, sign); break;
                case 2: b.deleteCharAt(at); break;
                default: b.append(sign); break;
            }
        }
        return b.toString();
    }

    private static String pairsText(String[][] stock) {
        int n = 1 + pick(chance(10) ? 14 : 5);
        int most = chance(5) ? 7 : 1 + pick(6);
        StringBuilder b = new StringBuilder();
        for (int k = 0; k < n; k++) {
            b.append(k == 0 ? "" : ";").append(sentence(stock[0], most)).append('=').append(sentence(stock[1], most));
        }
        return b.toString();
    }

    private static String sheetText(String[] stock) {
        int n = 1 + pick(chance(10) ? 10 : 8);
        int most = 1 + pick(4);
        StringBuilder b = new StringBuilder();
        for (int k = 0; k < n; k++) {
            b.append(k == 0 ? "" : ",").append(sentence(stock, most));
        }
        return b.toString();
    }

    private static int due(int run, String call, long got, long want) {
        if (got != want) {
            wrong++;
            System.out.println("run " + run + ": " + call + " answered " + got + ", the model " + want);
        }
        return 1;
    }

    private static int bit(boolean is) {
        return is ? 1 : 0;
    }

    private static int feedText(int run, WordLinks x, Model m, String text) {
        int calls = 0;
        if (m.count(2) > 0 && m.count(2) + text.length() > 200) {
            int n = Math.min(m.count(2), 200);
            calls += due(run, "pairs " + n, x.pairs(n), m.pairs(n));
        }
        for (int at = 0; at < text.length(); at += 20) {
            int[] five = new int[5];
            for (int k = 0; k < 20; k++) {
                int sign = at + k < text.length() ? text.charAt(at + k) : 'a';
                five[k / 4] = five[k / 4] << 8 | sign & 255;
            }
            calls += due(run, "feed " + text, x.feed(five[0], five[1], five[2], five[3], five[4]),
                    m.feed(five[0], five[1], five[2], five[3], five[4]));
        }
        return calls;
    }

    private static int clearTape(int run, WordLinks x, Model m) {
        int n = Math.min(m.count(2), 6);
        return due(run, "check", x.check(n), m.check(n));
    }

    private static int oneStep(int run, WordLinks x, Model m, String[][] stock) {
        int calls = 0;
        if (m.count(2) > 0 && chance(90)) {
            calls += clearTape(run, x, m);
        }
        int choice = pick(100);
        if (choice < 12) {
            String text = pairsText(stock);
            if (text.length() > 200) {
                text = text.substring(0, 200);
            }
            if (chance(25)) {
                text = spoiled(text);
            }
            calls += feedText(run, x, m, text);
            int n = text.length();
            return calls + due(run, "pairs " + text, x.pairs(n), m.pairs(n)) + whole(run, x, m);
        }
        if (choice < 16) {
            String text = sheetText(stock[0]) + "|" + sheetText(stock[1]);
            if (text.length() > 200) {
                text = text.substring(0, 200);
            }
            if (chance(25)) {
                text = spoiled(text);
            }
            calls += feedText(run, x, m, text);
            int n = text.length();
            calls += due(run, "sheets " + text, x.sheets(n), m.sheets(n));
            for (int what = -1; what < 27; what++) {
                calls += due(run, "matched " + what + " " + text, x.matched(what), m.matched(what));
            }
            return calls;
        }
        if (choice < 19) {
            return calls + due(run, "joins", x.joins(), m.joins()) + whole(run, x, m);
        }
        if (choice < 22) {
            return calls + due(run, "drop", x.drop(), m.drop()) + whole(run, x, m);
        }
        if (choice < 30) {
            int way = pick(2);
            int n = chance(10) ? pick(33) - 1 : 1 + pick(4);
            return calls + due(run, "rounds " + way + " " + n, x.rounds(way, n), m.rounds(way, n)) + whole(run, x, m);
        }
        if (choice < 32) {
            return calls + due(run, "even", x.even(), m.even()) + whole(run, x, m);
        }
        if (choice < 35) {
            boolean is = chance(50);
            return calls + due(run, "byLetters", bit(x.byLetters(is)), bit(m.byLetters(is))) + whole(run, x, m);
        }
        if (choice < 38) {
            boolean is = chance(60);
            return calls + due(run, "placed", bit(x.placed(is)), bit(m.placed(is)));
        }
        if (choice < 41) {
            int v = chance(50) ? 0 : pick(100003) - 1;
            if (chance(60)) {
                v = pick(60000);
            }
            return calls + due(run, "least " + v, x.least(v), m.least(v));
        }
        if (choice < 43) {
            return calls + due(run, "keep", x.keep(), m.keep());
        }
        if (choice < 44) {
            return calls + due(run, "undo", bit(x.undo()), bit(m.undo())) + whole(run, x, m);
        }
        if (choice < 55) {
            int pair = pick(m.pairs.size() + 1) - (chance(5) ? 1 : 0);
            int i = pick(6);
            int j = pick(6);
            boolean is = chance(80);
            return calls + due(run, "tell " + pair + " " + i + " " + j, x.tell(pair, i, j, is), m.tell(pair, i, j, is));
        }
        if (choice < 66) {
            String text = sentence(stock[0], chance(10) ? 9 : 8);
            if (chance(15)) {
                text = spoiled(text);
            }
            if (text.length() == 0) {
                text = "a";
            }
            int kind = pick(6);
            int[] whats = {0, 1, 2, 10 + pick(9), 100 + pick(25)};
            int what = whats[pick(5)];
            calls += feedText(run, x, m, text);
            int n = text.length();
            return calls + due(run, "over " + kind + " " + what + " " + text, x.over(kind, n, what), m.over(kind, n, what));
        }
        if (choice < 70) {
            String text = chance(80) ? stock[pick(2)][pick(3)] : spoiled(stock[0][0]);
            int side = pick(2);
            calls += feedText(run, x, m, text.isEmpty() ? "a" : text);
            int n = text.length();
            return calls + due(run, "find " + text, x.find(side, n), m.find(side, n));
        }
        if (choice < 74) {
            int n = chance(10) ? pick(34) - 1 : 1 + pick(6);
            int what = pick(6) - (chance(5) ? 1 : 0);
            return calls + due(run, "tried " + n + " " + what, x.tried(n, what), m.tried(n, what)) + whole(run, x, m);
        }
        if (choice < 76) {
            int kind = pick(7);
            return calls + due(run, "bestRounds", x.bestRounds(kind), m.bestRounds(kind)) + whole(run, x, m);
        }
        if (choice < 80) {
            StringBuilder b = new StringBuilder();
            for (int k = 0; k < 6; k++) {
                int link = m.pairs.isEmpty() || k >= m.pairs.get(0)[1].length ? -1 : m.chosen(0, 0, k);
                b.append((char) (chance(10) ? pick(7) : link < 0 ? 255 : link));
            }
            calls += feedText(run, x, m, b.toString());
            int n = chance(5) ? pick(9) - 1 : 1 + pick(6);
            return calls + due(run, "check " + n, x.check(n), m.check(n));
        }
        return calls + query(run, x, m);
    }

    /** What a call left behind, by some of the questions. */
    private static int whole(int run, WordLinks x, Model m) {
        int calls = 0;
        for (int what = 0; what < 4; what++) {
            calls += due(run, "count " + what, x.count(what), m.count(what));
        }
        int way = pick(2);
        calls += due(run, "fit " + way, x.fit(way, -1), m.fit(way, -1));
        int k = pick(8);
        calls += due(run, "near " + way + " " + k, x.near(way, k), m.near(way, k));
        calls += due(run, "side " + way, x.side(way, 0), m.side(way, 0));
        calls += query(run, x, m);
        return calls;
    }

    private static int edge(int n) {
        return chance(4) ? pick(2) == 0 ? -1 : n : pick(Math.max(n, 1));
    }

    private static int query(int run, WordLinks x, Model m) {
        int calls = 0;
        for (int times = 0; times < 3; times++) {
            int way = chance(3) ? 2 : pick(2);
            int kind = chance(3) ? pick(8) - 1 : pick(6);
            int pair = edge(m.pairs.size());
            int from = edge(m.words(way == 0 ? 0 : 1).size());
            int to = edge(m.words(way == 0 ? 1 : 0).size());
            int what = chance(50) ? pick(6) - 1 : pick(30) - 1;
            int i = pick(6);
            int j = pick(6);
            switch (pick(18)) {
                case 0:
                    calls += due(run, "likeness", x.likeness(from, to), m.likeness(from, to));
                    break;
                case 1:
                    calls += due(run, "word " + way + " " + from + " " + what, x.word(way, from, what), m.word(way, from, what));
                    break;
                case 2:
                    calls += due(run, "share " + way + " " + from + " " + to, x.share(way, from, to), m.share(way, from, to));
                    break;
                case 3:
                    calls += due(run, "best " + way + " " + from + " " + i, x.best(way, from, i - 1, j % 3), m.best(way, from, i - 1, j % 3));
                    break;
                case 4:
                    calls += due(run, "at", x.at(pair, way, i + j - 2), m.at(pair, way, i + j - 2));
                    break;
                case 5:
                    calls += due(run, "fit " + way + " " + pair, x.fit(way, pair), m.fit(way, pair));
                    break;
                case 6:
                    calls += due(run, "part " + way + " " + pair + " " + i + " " + j, x.part(way, pair, i, j), m.part(way, pair, i, j));
                    break;
                case 7:
                    calls += due(run, "counted " + way + " " + from + " " + to, x.counted(way, from, to), m.counted(way, from, to));
                    break;
                case 8:
                    calls += due(run, "links " + kind + " " + pair + " " + i, x.links(kind, pair, i), m.links(kind, pair, i));
                    break;
                case 9:
                    calls += due(run, "linked " + kind + " " + pair, x.linked(kind, pair), m.linked(kind, pair));
                    break;
                case 10:
                    calls += due(run, "pair " + kind + " " + pair + " " + (j - 1), x.pair(kind, pair, j - 1), m.pair(kind, pair, j - 1));
                    break;
                case 11:
                    calls += due(run, "cut " + kind + " " + pair + " " + (j - 1), x.cut(kind, pair, j - 1), m.cut(kind, pair, j - 1));
                    break;
                case 12:
                    calls += due(run, "partings " + kind + " " + pair, x.partings(kind, pair), m.partings(kind, pair));
                    break;
                case 13:
                    calls += due(run, "phrases " + kind, x.phrases(kind), m.phrases(kind));
                    break;
                case 14: {
                    int phrase = edge(Math.max(m.phrases(kind), 1));
                    calls += due(run, "phrase " + kind + " " + phrase + " " + what, x.phrase(kind, phrase, what), m.phrase(kind, phrase, what));
                    break;
                }
                case 15:
                    calls += due(run, "agree " + kind, x.agree(kind), m.agree(kind));
                    break;
                case 16:
                    calls += due(run, "twins " + what, x.twins(what), m.twins(what));
                    calls += due(run, "twins 0", x.twins(0), m.twins(0));
                    break;
                default:
                    calls += due(run, "side " + way + " 1", x.side(way, 1), m.side(way, 1));
                    break;
            }
        }
        return calls;
    }

    /** The document a second time: words are texts, sets of links are lists of two numbers. */
    private static final class Model {
        List<String[][]> pairs = new ArrayList<>();
        List<Set<List<Integer>>> told = new ArrayList<>();
        List<Map<List<String>, Integer>> shares = new ArrayList<>();
        int[][] near = new int[2][8];
        List<List<String[]>> sheets = null;
        boolean byLetters;
        boolean placed;
        int least;
        List<Integer> tape = new ArrayList<>();
        Model keptModel;

        Model() {
            begin();
        }

        // --- state

        Model copy() {
            Model c = new Model();
            c.pairs = new ArrayList<>(pairs);
            c.told = new ArrayList<>();
            for (Set<List<Integer>> links : told) {
                Set<List<Integer>> t = newSet();
                t.addAll(links);
                c.told.add(t);
            }
            c.shares = new ArrayList<>();
            for (Map<List<String>, Integer> s : shares) {
                c.shares.add(new HashMap<>(s));
            }
            c.near = new int[][] {near[0].clone(), near[1].clone()};
            c.sheets = sheets;
            c.byLetters = byLetters;
            c.placed = placed;
            c.least = least;
            return c;
        }

        static Set<List<Integer>> newSet() {
            return new TreeSet<>(Comparator.comparing((List<Integer> l) -> l.get(0)).thenComparing(l -> l.get(1)));
        }

        List<String> words(int side) {
            Set<String> all = new LinkedHashSet<>();
            for (String[][] p : pairs) {
                all.addAll(Arrays.asList(p[side]));
            }
            return new ArrayList<>(all);
        }

        List<String> partners(int side, String word) {
            List<String> found = new ArrayList<>();
            for (String v : words(1 - side)) {
                boolean meet = false;
                for (String[][] p : pairs) {
                    meet |= Arrays.asList(p[side]).contains(word) && Arrays.asList(p[1 - side]).contains(v);
                }
                if (meet) {
                    found.add(v);
                }
            }
            return found;
        }

        static int[] parted(List<Long> weights) {
            List<BigInteger> w = new ArrayList<>();
            BigInteger all = BigInteger.ZERO;
            for (long x : weights) {
                w.add(BigInteger.valueOf(x));
                all = all.add(BigInteger.valueOf(x));
            }
            if (all.signum() == 0) {
                Collections.fill(w, BigInteger.ONE);
                all = BigInteger.valueOf(w.size());
            }
            int[] got = new int[w.size()];
            List<BigInteger> rest = new ArrayList<>();
            List<Integer> order = new ArrayList<>();
            int left = 100000;
            for (int k = 0; k < got.length; k++) {
                BigInteger[] qr = w.get(k).multiply(BigInteger.valueOf(100000)).divideAndRemainder(all);
                got[k] = qr[0].intValueExact();
                rest.add(qr[1]);
                order.add(k);
                left -= got[k];
            }
            order.sort((a, b) -> rest.get(b).compareTo(rest.get(a)));
            for (int k = 0; k < left; k++) {
                got[order.get(k)]++;
            }
            return got;
        }

        static int common(String a, String b) {
            if (a.isEmpty() || b.isEmpty()) {
                return 0;
            }
            if (a.charAt(0) == b.charAt(0)) {
                return 1 + common(a.substring(1), b.substring(1));
            }
            return Math.max(common(a.substring(1), b), common(a, b.substring(1)));
        }

        final void begin() {
            shares = new ArrayList<>();
            for (int way = 0; way < 2; way++) {
                Map<List<String>, Integer> s = new HashMap<>();
                for (String u : words(way)) {
                    List<String> partners = partners(way, u);
                    List<Long> weights = new ArrayList<>();
                    for (String v : partners) {
                        weights.add(byLetters ? 1L + 3 * common(u, v) : 1L);
                    }
                    int[] got = parted(weights);
                    for (int k = 0; k < got.length; k++) {
                        s.put(List.of(u, partners.get(k)), got[k]);
                    }
                }
                shares.add(s);
                Arrays.fill(near[way], 12500);
            }
        }

        int others(Map<List<String>, Integer> a, Map<List<String>, Integer> b) {
            int n = 0;
            for (List<String> key : a.keySet()) {
                if (!a.get(key).equals(b.get(key))) {
                    n++;
                }
            }
            return n;
        }

        int nearness(int l, int m, int i, int j) {
            return Math.min(7, Math.abs(i * m - j * l) * 8 / (l * m));
        }

        long worth(int way, int p, int i, int j) {
            String[] a = pairs.get(p)[way];
            String[] b = pairs.get(p)[1 - way];
            long s = shares.get(way).get(List.of(a[i], b[j]));
            return placed ? s * near[way][nearness(a.length, b.length, i, j)] : s;
        }

        int[] partsFor(int way, int p, int j) {
            List<Long> weights = new ArrayList<>();
            for (int i = 0; i < pairs.get(p)[way].length; i++) {
                weights.add(worth(way, p, i, j));
            }
            return parted(weights);
        }

        Map<List<String>, Long> counts(int way, long[] nears) {
            Map<List<String>, Long> c = new HashMap<>();
            for (int p = 0; p < pairs.size(); p++) {
                String[] a = pairs.get(p)[way];
                String[] b = pairs.get(p)[1 - way];
                for (int j = 0; j < b.length; j++) {
                    int[] got = partsFor(way, p, j);
                    for (int i = 0; i < a.length; i++) {
                        c.merge(List.of(a[i], b[j]), (long) got[i], Long::sum);
                        nears[nearness(a.length, b.length, i, j)] += got[i];
                    }
                }
            }
            return c;
        }

        void round(int way) {
            long[] nears = new long[8];
            Map<List<String>, Long> c = counts(way, nears);
            Map<List<String>, Integer> s = new HashMap<>();
            for (String u : words(way)) {
                List<String> partners = partners(way, u);
                List<Long> weights = new ArrayList<>();
                for (String v : partners) {
                    weights.add(c.get(List.of(u, v)));
                }
                int[] got = parted(weights);
                for (int k = 0; k < got.length; k++) {
                    s.put(List.of(u, partners.get(k)), got[k]);
                }
            }
            shares.set(way, s);
            if (placed) {
                List<Long> weights = new ArrayList<>();
                for (long n : nears) {
                    weights.add(n);
                }
                near[way] = parted(weights);
            }
        }

        // --- texts

        static long fault(String text, Pattern pattern, boolean isSheets) {
            long best = Long.MAX_VALUE;
            for (int n = 1; n <= text.length() && best == Long.MAX_VALUE; n++) {
                Matcher mm = pattern.matcher(text.substring(0, n));
                if (!mm.matches() && !mm.hitEnd()) {
                    best = (n - 1) * 10L + 1;
                }
            }
            if (best == Long.MAX_VALUE && !pattern.matcher(text).matches()) {
                best = text.length() * 10L + 1;
            }
            int run = 0;
            int words = 0;
            int parts = 1;
            for (int k = 0; k < text.length(); k++) {
                char c = text.charAt(k);
                if (c >= 'a' && c <= 'z') {
                    run++;
                    if (run == 1 && ++words == 7) {
                        best = Math.min(best, k * 10L + 5);
                    }
                    if (run == 8) {
                        best = Math.min(best, k * 10L + 2);
                    }
                    continue;
                }
                run = 0;
                if (c != ' ') {
                    words = 0;
                }
                if (c == (isSheets ? ',' : ';') && ++parts == (isSheets ? 9 : 13)) {
                    // ahead of fault 1 of the same place
                    if (best == (k + 1) * 10L + 1 || best > (k + 1) * 10L) {
                        best = Math.min((k + 1) * 10L, best);
                    }
                }
                if (c == '|') {
                    parts = 1;
                }
            }
            if (best == Long.MAX_VALUE) {
                return 0;
            }
            long number = best % 10 == 0 ? 4 : best % 10;
            return -1000 * number - best / 10;
        }

        static final String S = "[a-z]+( [a-z]+)*";
        static final Pattern PAIRS = Pattern.compile(S + "=" + S + "(;" + S + "=" + S + ")*");
        static final Pattern SHEETS = Pattern.compile(S + "(," + S + ")*\\|" + S + "(," + S + ")*");

        String take(int n) {
            StringBuilder b = new StringBuilder();
            for (int k = 0; k < n; k++) {
                b.append((char) (int) tape.get(k));
            }
            tape.clear();
            return b.toString();
        }

        int feed(int... five) {
            if (tape.size() + 20 > 240) {
                return -1;
            }
            for (int x : five) {
                for (int k = 0; k < 4; k++) {
                    tape.add(x >>> 24);
                    x <<= 8;
                }
            }
            return tape.size();
        }

        int come(List<String[][]> more) {
            if (pairs.size() + more.size() > 24) {
                return -3;
            }
            List<String[][]> before = pairs;
            pairs = new ArrayList<>(pairs);
            pairs.addAll(more);
            if (words(0).size() > 40 || words(1).size() > 40) {
                pairs = before;
                return -4;
            }
            for (int k = 0; k < more.size(); k++) {
                told.add(newSet());
            }
            begin();
            return pairs.size();
        }

        int pairs(int n) {
            if (n < 1 || n > 200 || tape.size() < n) {
                return -1;
            }
            String text = take(n);
            long fault = fault(text, PAIRS, false);
            if (fault != 0) {
                return (int) fault;
            }
            List<String[][]> more = new ArrayList<>();
            for (String clause : text.split(";")) {
                String[] two = clause.split("=");
                more.add(new String[][] {two[0].split(" "), two[1].split(" ")});
            }
            return come(more);
        }

        int sheets(int n) {
            if (n < 1 || n > 200 || tape.size() < n) {
                return -1;
            }
            String text = take(n);
            long fault = fault(text, SHEETS, true);
            if (fault != 0) {
                return (int) fault;
            }
            sheets = new ArrayList<>();
            for (String sheet : text.split("\\|")) {
                List<String[]> sentences = new ArrayList<>();
                for (String sentence : sheet.split(",")) {
                    sentences.add(sentence.split(" "));
                }
                sheets.add(sentences);
            }
            return sheets.get(0).size() + sheets.get(1).size();
        }

        static int letters(List<String[]> sentences) {
            int n = 0;
            for (String[] s : sentences) {
                n += String.join("", s).length();
            }
            return n;
        }

        /** The cost ahead, then the kinds. */
        List<Integer> matching(int i, int j, Map<Integer, List<Integer>> known) {
            List<String[]> a = sheets.get(0);
            List<String[]> b = sheets.get(1);
            if (i == a.size() && j == b.size()) {
                return List.of(0);
            }
            if (known.containsKey(i * 100 + j)) {
                return known.get(i * 100 + j);
            }
            int[][] takes = {{1, 1, 0}, {1, 0, 45}, {0, 1, 45}, {2, 1, 20}, {1, 2, 20}};
            List<Integer> best = null;
            for (int kind = 0; kind < 5; kind++) {
                int i2 = i + takes[kind][0];
                int j2 = j + takes[kind][1];
                if (i2 > a.size() || j2 > b.size()) {
                    continue;
                }
                int cost = takes[kind][2];
                if (kind == 0 || kind > 2) {
                    cost += 10 * Math.abs(letters(a.subList(i, i2)) - letters(b.subList(j, j2)));
                }
                List<Integer> rest = matching(i2, j2, known);
                List<Integer> all = new ArrayList<>();
                all.add(cost + rest.get(0));
                all.add(kind);
                all.addAll(rest.subList(1, rest.size()));
                if (best == null || isAhead(all, best)) {
                    best = all;
                }
            }
            known.put(i * 100 + j, best);
            return best;
        }

        static boolean isAhead(List<Integer> a, List<Integer> b) {
            for (int k = 0; k < a.size() && k < b.size(); k++) {
                if (!a.get(k).equals(b.get(k))) {
                    return a.get(k) < b.get(k);
                }
            }
            return a.size() < b.size();
        }

        int matched(int what) {
            if (what < 0 || what > 3 && what < 10 || what > 25) {
                return -1;
            }
            if (sheets == null) {
                return -2;
            }
            List<Integer> best = matching(0, 0, new HashMap<>());
            switch (what) {
                case 0: return best.get(0);
                case 1: return best.size() - 1;
                case 2: return sheets.get(0).size();
                case 3: return sheets.get(1).size();
                default: return what - 10 < best.size() - 1 ? best.get(what - 9) : -4;
            }
        }

        int joins() {
            if (sheets == null) {
                return -2;
            }
            List<Integer> best = matching(0, 0, new HashMap<>());
            List<String[][]> more = new ArrayList<>();
            int i = 0;
            int j = 0;
            for (int kind : best.subList(1, best.size())) {
                List<String> a = new ArrayList<>();
                List<String> b = new ArrayList<>();
                int di = kind == 2 ? 0 : kind == 3 ? 2 : 1;
                int dj = kind == 1 ? 0 : kind == 4 ? 2 : 1;
                for (int k = 0; k < di; k++) {
                    a.addAll(Arrays.asList(sheets.get(0).get(i++)));
                }
                for (int k = 0; k < dj; k++) {
                    b.addAll(Arrays.asList(sheets.get(1).get(j++)));
                }
                if (di > 0 && dj > 0) {
                    if (a.size() > 6 || b.size() > 6) {
                        return -5;
                    }
                    more.add(new String[][] {a.toArray(new String[0]), b.toArray(new String[0])});
                }
            }
            return come(more);
        }

        int drop() {
            if (pairs.isEmpty()) {
                return -1;
            }
            pairs.remove(pairs.size() - 1);
            told.remove(told.size() - 1);
            begin();
            return pairs.size();
        }

        int rounds(int way, int n) {
            if (way < 0 || way > 1 || n < 1 || n > 30) {
                return -1;
            }
            Map<List<String>, Integer> before = shares.get(way);
            for (int k = 0; k < n; k++) {
                round(way);
            }
            return others(before, shares.get(way));
        }

        int even() {
            List<Map<List<String>, Integer>> before = shares;
            begin();
            return others(before.get(0), shares.get(0)) + others(before.get(1), shares.get(1));
        }

        boolean byLetters(boolean is) {
            boolean other = byLetters != is;
            if (other) {
                byLetters = is;
                begin();
            }
            return other;
        }

        boolean placed(boolean is) {
            boolean other = placed != is;
            placed = is;
            return other;
        }

        int near(int way, int k) {
            return way < 0 || way > 1 || k < 0 || k > 7 ? -1 : near[way][k];
        }

        boolean noWord(int side, int word) {
            return side < 0 || side > 1 || word < 0 || word >= words(side).size();
        }

        boolean noPair(int pair) {
            return pair < 0 || pair >= pairs.size();
        }

        boolean noPlace(int pair, int side, int place) {
            return noPair(pair) || place < 0 || place >= pairs.get(pair)[side].length;
        }

        int likeness(int one, int other) {
            return noWord(0, one) || noWord(1, other) ? -1 : common(words(0).get(one), words(1).get(other));
        }

        int least(int v) {
            if (v < 0 || v > 100000) {
                return -1;
            }
            int was = least;
            least = v;
            return was;
        }

        int side(int side, int what) {
            if (side < 0 || side > 1 || what < 0 || what > 1) {
                return -1;
            }
            int n = 0;
            for (String[][] p : pairs) {
                n += p[side].length;
            }
            return what == 0 ? words(side).size() : n;
        }

        List<String> ordered(int way, String word) {
            List<String> partners = partners(way, word);
            partners.sort((a, b) -> shares.get(way).get(List.of(word, b)) - shares.get(way).get(List.of(word, a)));
            return partners;
        }

        int word(int side, int word, int what) {
            if (noWord(side, word) || what < 0 || what > 6 && what < 10 || what > 16) {
                return -1;
            }
            String w = words(side).get(word);
            if (what >= 10) {
                return what - 10 < w.length() ? w.charAt(what - 10) : -4;
            }
            int places = 0;
            for (String[][] p : pairs) {
                places += Collections.frequency(Arrays.asList(p[side]), w);
            }
            List<String> order = ordered(side, w);
            int zero = 0;
            for (String v : order) {
                zero += shares.get(side).get(List.of(w, v)) == 0 ? 1 : 0;
            }
            List<String> sorted = words(side);
            Collections.sort(sorted);
            int[] answers = {w.length(), places, order.size(), words(1 - side).indexOf(order.get(0)),
                shares.get(side).get(List.of(w, order.get(0))), zero, sorted.indexOf(w)};
            return answers[what];
        }

        int find(int side, int n) {
            if (side < 0 || side > 1 || n < 1 || n > 7 || tape.size() < n) {
                return -1;
            }
            int found = words(side).indexOf(take(n));
            return found < 0 ? -2 : found;
        }

        int share(int way, int from, int to) {
            if (way < 0 || way > 1 || noWord(way, from) || noWord(1 - way, to)) {
                return -1;
            }
            Integer s = shares.get(way).get(List.of(words(way).get(from), words(1 - way).get(to)));
            return s == null ? -2 : s;
        }

        int best(int way, int word, int k, int what) {
            if (way < 0 || way > 1 || noWord(way, word) || k < 0 || what < 0 || what > 1) {
                return -1;
            }
            String w = words(way).get(word);
            List<String> order = ordered(way, w);
            if (k >= order.size()) {
                return -4;
            }
            return what == 0 ? words(1 - way).indexOf(order.get(k)) : shares.get(way).get(List.of(w, order.get(k)));
        }

        int at(int pair, int side, int place) {
            if (noPair(pair) || side < 0 || side > 1 || place < 0 || place > 5) {
                return -1;
            }
            return noPlace(pair, side, place) ? -2 : words(side).indexOf(pairs.get(pair)[side][place]);
        }

        long fit(int way, int pair) {
            if (way < 0 || way > 1 || pair < -1 || pair >= pairs.size()) {
                return -2;
            }
            long all = 0;
            for (int p = 0; p < pairs.size(); p++) {
                if (pair == -1 || pair == p) {
                    for (String u : pairs.get(p)[way]) {
                        for (String v : pairs.get(p)[1 - way]) {
                            all += shares.get(way).get(List.of(u, v));
                        }
                    }
                }
            }
            return all;
        }

        int part(int way, int pair, int i, int j) {
            if (way < 0 || way > 1 || noPlace(pair, way, i) || noPlace(pair, 1 - way, j)) {
                return -1;
            }
            return partsFor(way, pair, j)[i];
        }

        int counted(int way, int from, int to) {
            if (way < 0 || way > 1 || noWord(way, from) || noWord(1 - way, to)) {
                return -1;
            }
            Long c = counts(way, new long[8]).get(List.of(words(way).get(from), words(1 - way).get(to)));
            return c == null ? -2 : (int) (long) c;
        }

        // --- links

        int chosen(int way, int p, int to) {
            int l = pairs.get(p)[0].length;
            int m = pairs.get(p)[1].length;
            List<Integer> order = new ArrayList<>();
            for (int k = 0; k < pairs.get(p)[way].length; k++) {
                order.add(k);
            }
            order.sort(Comparator.comparing((Integer k) -> -worth(way, p, k, to))
                    .thenComparing(k -> way == 0 ? Math.abs(k * m - to * l) : Math.abs(to * m - k * l)));
            int best = order.get(0);
            return shares.get(way).get(List.of(pairs.get(p)[way][best], pairs.get(p)[1 - way][to])) < least ? -1 : best;
        }

        Set<List<Integer>> set(int kind, int p) {
            Set<List<Integer>> forth = newSet();
            Set<List<Integer>> back = newSet();
            for (int j = 0; j < pairs.get(p)[1].length; j++) {
                if (chosen(0, p, j) >= 0) {
                    forth.add(List.of(chosen(0, p, j), j));
                }
            }
            for (int i = 0; i < pairs.get(p)[0].length; i++) {
                if (chosen(1, p, i) >= 0) {
                    back.add(List.of(i, chosen(1, p, i)));
                }
            }
            if (kind < 2) {
                return kind == 0 ? forth : back;
            }
            Set<List<Integer>> both = newSet();
            both.addAll(forth);
            both.retainAll(back);
            Set<List<Integer>> either = newSet();
            either.addAll(forth);
            either.addAll(back);
            if (kind < 4) {
                return kind == 2 ? both : either;
            }
            int before = -1;
            while (before != both.size()) {
                before = both.size();
                for (List<Integer> link : either) {
                    if (both.contains(link)) {
                        continue;
                    }
                    boolean neighbour = both.stream().anyMatch(x -> Math.abs(x.get(0) - link.get(0)) <= 1 && Math.abs(x.get(1) - link.get(1)) <= 1);
                    boolean row = both.stream().anyMatch(x -> x.get(0).equals(link.get(0)));
                    boolean column = both.stream().anyMatch(x -> x.get(1).equals(link.get(1)));
                    if (neighbour && (!row || !column)) {
                        both.add(link);
                    }
                }
            }
            if (kind == 5) {
                for (List<Integer> link : either) {
                    if (both.stream().noneMatch(x -> x.get(0).equals(link.get(0)) || x.get(1).equals(link.get(1)))) {
                        both.add(link);
                    }
                }
            }
            return both;
        }

        boolean noKind(int kind) {
            return kind < 0 || kind > 5;
        }

        int links(int kind, int pair, int place) {
            if (noKind(kind) || noPlace(pair, 0, place)) {
                return -1;
            }
            int bits = 0;
            for (List<Integer> link : set(kind, pair)) {
                bits |= link.get(0) == place ? 1 << link.get(1) : 0;
            }
            return bits;
        }

        int linked(int kind, int pair) {
            if (noKind(kind) || pair < -1 || pair >= pairs.size()) {
                return -2;
            }
            int n = 0;
            for (int p = 0; p < pairs.size(); p++) {
                n += pair == -1 || pair == p ? set(kind, p).size() : 0;
            }
            return n;
        }

        List<int[]> boxes(int kind, int p) {
            Set<List<Integer>> links = set(kind, p);
            List<int[]> found = new ArrayList<>();
            int l = pairs.get(p)[0].length;
            int m = pairs.get(p)[1].length;
            for (int a = 0; a < l; a++) {
                for (int b = a; b < Math.min(l, a + 3); b++) {
                    for (int c = 0; c < m; c++) {
                        for (int d = c; d < Math.min(m, c + 3); d++) {
                            int inside = 0;
                            int half = 0;
                            for (List<Integer> x : links) {
                                boolean one = x.get(0) >= a && x.get(0) <= b;
                                boolean other = x.get(1) >= c && x.get(1) <= d;
                                inside += one && other ? 1 : 0;
                                half += one != other ? 1 : 0;
                            }
                            if (inside > 0 && half == 0) {
                                found.add(new int[] {a, b, c, d});
                            }
                        }
                    }
                }
            }
            return found;
        }

        int pair(int kind, int pair, int what) {
            if (noKind(kind) || noPair(pair) || what < 0 || what > 3) {
                return -1;
            }
            Set<List<Integer>> links = set(kind, pair);
            int crossing = 0;
            int[] bare = {(1 << pairs.get(pair)[0].length) - 1, (1 << pairs.get(pair)[1].length) - 1};
            for (List<Integer> x : links) {
                bare[0] &= ~(1 << x.get(0));
                bare[1] &= ~(1 << x.get(1));
                for (List<Integer> y : links) {
                    crossing += x.get(0) < y.get(0) && x.get(1) > y.get(1) ? 1 : 0;
                }
            }
            int[] answers = {boxes(kind, pair).size(), bare[0], bare[1], crossing};
            return answers[what];
        }

        int cut(int kind, int pair, int what) {
            if (noKind(kind) || noPair(pair) || what < 0 || what > 2) {
                return -1;
            }
            List<Integer> best = null;
            for (int i = 1; i < pairs.get(pair)[0].length; i++) {
                for (int j = 1; j < pairs.get(pair)[1].length; j++) {
                    int n = 0;
                    for (List<Integer> x : set(kind, pair)) {
                        n += x.get(0) < i != x.get(1) < j ? 1 : 0;
                    }
                    List<Integer> now = List.of(n, i, j);
                    if (best == null || isAhead(now, best)) {
                        best = now;
                    }
                }
            }
            return best == null ? -2 : best.get((what + 1) % 3);
        }

        long partings(int kind, int pair) {
            if (noKind(kind) || noPair(pair)) {
                return -1;
            }
            return apart(set(kind, pair), 0, pairs.get(pair)[0].length, 0, pairs.get(pair)[1].length, new HashMap<>());
        }

        static long apart(Set<List<Integer>> links, int a, int b, int c, int d, Map<List<Integer>, Long> known) {
            if (b - a == 1 || d - c == 1) {
                return 1;
            }
            Long old = known.get(List.of(a, b, c, d));
            if (old != null) {
                return old;
            }
            long all = 0;
            for (int i = a + 1; i < b; i++) {
                for (int j = c + 1; j < d; j++) {
                    boolean straight = false;
                    boolean turned = false;
                    for (List<Integer> x : links) {
                        if (x.get(0) >= a && x.get(0) < b && x.get(1) >= c && x.get(1) < d) {
                            boolean same = x.get(0) < i == x.get(1) < j;
                            straight |= same;
                            turned |= !same;
                        }
                    }
                    if (!turned) {
                        all += apart(links, a, i, c, j, known) * apart(links, i, b, j, d, known);
                    }
                    if (!straight) {
                        all += apart(links, a, i, j, d, known) * apart(links, i, b, c, j, known);
                    }
                }
            }
            known.put(List.of(a, b, c, d), all);
            return all;
        }

        // --- phrases

        TreeMap<List<List<Integer>>, Integer> table(int kind) {
            TreeMap<List<List<Integer>>, Integer> t = new TreeMap<>((x, y) -> {
                for (int side = 0; side < 2; side++) {
                    if (isAhead(x.get(side), y.get(side))) {
                        return -1;
                    }
                    if (isAhead(y.get(side), x.get(side))) {
                        return 1;
                    }
                }
                return 0;
            });
            for (int p = 0; p < pairs.size(); p++) {
                for (int[] box : boxes(kind, p)) {
                    t.merge(List.of(row(0, p, box[0], box[1]), row(1, p, box[2], box[3])), 1, Integer::sum);
                }
            }
            return t;
        }

        List<Integer> row(int side, int p, int a, int b) {
            List<Integer> r = new ArrayList<>();
            for (int k = a; k <= b; k++) {
                r.add(words(side).indexOf(pairs.get(p)[side][k]));
            }
            return r;
        }

        int phrases(int kind) {
            return noKind(kind) ? -1 : table(kind).size();
        }

        int cost(TreeMap<List<List<Integer>>, Integer> t, List<List<Integer>> phrase) {
            return 1050 - 1000 * t.get(phrase) / rowBoxes(t, phrase.get(0));
        }

        int rowBoxes(TreeMap<List<List<Integer>>, Integer> t, List<Integer> row) {
            int n = 0;
            for (List<List<Integer>> other : t.keySet()) {
                n += other.get(0).equals(row) ? t.get(other) : 0;
            }
            return n;
        }

        int phrase(int kind, int phrase, int what) {
            boolean known = what >= 0 && what <= 4 || what >= 10 && what <= 12 || what >= 20 && what <= 22;
            if (noKind(kind) || !known || phrase < 0 || phrase >= phrases(kind)) {
                return -1;
            }
            TreeMap<List<List<Integer>>, Integer> t = table(kind);
            List<List<Integer>> p = new ArrayList<>(t.keySet()).get(phrase);
            if (what >= 10) {
                List<Integer> r = p.get(what / 10 - 1);
                return what % 10 < r.size() ? r.get(what % 10) : -4;
            }
            int[] answers = {t.get(p), p.get(0).size(), p.get(1).size(), rowBoxes(t, p.get(0)), cost(t, p)};
            return answers[what];
        }

        /** The cost, how many pieces, then the pieces. */
        List<Integer> put(TreeMap<List<List<Integer>>, Integer> t, List<Integer> row, int at, Map<Integer, List<Integer>> known) {
            if (at == row.size()) {
                return List.of(0, 0);
            }
            if (known.containsKey(at)) {
                return known.get(at);
            }
            List<Integer> best = null;
            List<List<List<Integer>>> all = new ArrayList<>(t.keySet());
            for (int k = 0; k <= all.size(); k++) {
                int length = 1;
                int cost = 2000;
                if (k < all.size()) {
                    List<Integer> r = all.get(k).get(0);
                    length = r.size();
                    if (at + length > row.size() || !row.subList(at, at + length).equals(r)) {
                        continue;
                    }
                    cost = cost(t, all.get(k));
                }
                List<Integer> rest = put(t, row, at + length, known);
                List<Integer> now = new ArrayList<>(List.of(cost + rest.get(0), 1 + rest.get(1), k < all.size() ? k : 9999));
                now.addAll(rest.subList(2, rest.size()));
                if (best == null || isAhead(now, best)) {
                    best = now;
                }
            }
            known.put(at, best);
            return best;
        }

        int over(int kind, int n, int what) {
            boolean known = what >= 0 && what <= 2 || what >= 10 && what <= 17 || what >= 100 && what <= 123;
            if (noKind(kind) || !known || n < 1 || n > 80 || tape.size() < n) {
                return -1;
            }
            String text = take(n);
            if (!text.matches("[a-z]{1,7}( [a-z]{1,7}){0,7}")) {
                return -2;
            }
            List<Integer> row = new ArrayList<>();
            for (String w : text.split(" ")) {
                row.add(words(0).indexOf(w));
            }
            if (row.contains(-1)) {
                return -2;
            }
            TreeMap<List<List<Integer>>, Integer> t = table(kind);
            List<Integer> best = put(t, row, 0, new HashMap<>());
            List<Integer> pieces = best.subList(2, best.size());
            List<Integer> coming = new ArrayList<>();
            for (int piece : pieces) {
                coming.addAll(piece == 9999 ? List.of(-3) : new ArrayList<>(t.keySet()).get(piece).get(1));
            }
            if (what >= 100) {
                return what - 100 < coming.size() ? coming.get(what - 100) : -4;
            }
            if (what >= 10) {
                return what - 10 < pieces.size() ? pieces.get(what - 10) : -4;
            }
            return what == 0 ? best.get(0) : what == 1 ? pieces.size() : coming.size();
        }

        // --- told, twins, trials

        int tell(int pair, int i, int j, boolean is) {
            if (noPlace(pair, 0, i) || noPlace(pair, 1, j)) {
                return -1;
            }
            List<Integer> link = List.of(i, j);
            boolean changed = is ? told.get(pair).add(link) : told.get(pair).remove(link);
            return changed ? told.get(pair).size() : -2;
        }

        int agree(int kind) {
            if (noKind(kind)) {
                return -1;
            }
            int both = 0;
            int all = 0;
            for (int p = 0; p < pairs.size(); p++) {
                if (!told.get(p).isEmpty()) {
                    Set<List<Integer>> links = set(kind, p);
                    all += links.size() + told.get(p).size();
                    for (List<Integer> x : links) {
                        both += told.get(p).contains(x) ? 2 : 0;
                    }
                }
            }
            return all == 0 ? 0 : both * 10000 / all;
        }

        int twinOf(int u) {
            String w = words(0).get(u);
            String v = ordered(0, w).get(0);
            return ordered(1, v).get(0).equals(w) ? words(1).indexOf(v) : -2;
        }

        int twins(int what) {
            if (what == 0) {
                int n = 0;
                for (int u = 0; u < words(0).size(); u++) {
                    n += twinOf(u) >= 0 ? 1 : 0;
                }
                return n;
            }
            return what < 10 || noWord(0, what - 10) ? -1 : twinOf(what - 10);
        }

        int tried(int n, int what) {
            if (n < 1 || n > 30 || what < 0 || what > 4) {
                return -1;
            }
            Model c = copy();
            for (int k = 0; k < n; k++) {
                c.round(1);
                c.round(0);
            }
            int full = 0;
            for (Map<List<String>, Integer> s : c.shares) {
                for (int x : s.values()) {
                    full += x != 0 ? 1 : 0;
                }
            }
            switch (what) {
                case 0: return c.linked(2, -1);
                case 1: return c.linked(3, -1);
                case 2: return c.twins(0);
                case 3: return c.agree(4);
                default: return full;
            }
        }

        int bestRounds(int kind) {
            if (noKind(kind)) {
                return -1;
            }
            Model c = copy();
            List<Integer> agreed = new ArrayList<>();
            for (int k = 0; k <= 30; k++) {
                agreed.add(c.agree(kind));
                c.round(0);
                c.round(1);
            }
            return agreed.indexOf(Collections.max(agreed));
        }

        int keep() {
            keptModel = copy();
            return pairs.size();
        }

        boolean undo() {
            if (keptModel == null) {
                return false;
            }
            Model c = keptModel.copy();
            pairs = c.pairs;
            told = c.told;
            shares = c.shares;
            near = c.near;
            sheets = c.sheets;
            byLetters = c.byLetters;
            placed = c.placed;
            least = c.least;
            return true;
        }

        int check(int n) {
            if (n < 0 || n > 6 || tape.size() < n) {
                return -2;
            }
            String text = take(n);
            for (int j = 0; j < n; j++) {
                if (noPlace(0, 1, j)) {
                    return j;
                }
                int i = chosen(0, 0, j);
                if (text.charAt(j) != (i < 0 ? 255 : i)) {
                    return j;
                }
            }
            return -1;
        }

        int count(int what) {
            int all = 0;
            for (Set<List<Integer>> t : told) {
                all += t.size();
            }
            int[] answers = {pairs.size(), least, tape.size(), all};
            return what < 0 || what > 3 ? -1 : answers[what];
        }
    }
}

/** Promise by promise: ordinary calls, the edges that the document names, and wrong arguments. */
public final class PromisesTest {
    private static int wrong = 0;
    private static int promise = 0;

    private static final String BOOKS = "das haus=the house;das buch=the book;ein buch=a book";

    public static void main(String[] args) {
        newObject();
        feed();
        pairsRead();
        pairsFaults();
        pairsLimits();
        sheetsRead();
        matched();
        joins();
        drop();
        rounds();
        even();
        byLetters();
        placed();
        near();
        likeness();
        least();
        side();
        word();
        find();
        share();
        best();
        at();
        fit();
        part();
        counted();
        links();
        grownLinks();
        linked();
        pair();
        cut();
        partings();
        phrases();
        phrase();
        over();
        overTies();
        tell();
        agree();
        twins();
        tried();
        bestRounds();
        keepAndUndo();
        check();
        count();
        tapeAfterRefusals();
        System.out.println(wrong == 0 ? "all promises hold" : wrong + " answers are not as promised");
        if (wrong != 0) {
            System.exit(1);
        }
    }

    private static void due(String call, long got, long want) {
        if (got != want) {
            wrong++;
            System.out.println("promise " + promise + ": " + call + " answered " + got + ", due is " + want);
        }
    }

    private static void due(String call, boolean got, boolean want) {
        due(call, got ? 1 : 0, want ? 1 : 0);
    }

    /** Feeds a text, with x behind it up to whole twenties: how many bytes it has itself. */
    private static int put(WordLinks x, String text) {
        for (int at = 0; at < text.length(); at += 20) {
            int[] five = new int[5];
            for (int k = 0; k < 20; k++) {
                int sign = at + k < text.length() ? text.charAt(at + k) : 'x';
                five[k / 4] = five[k / 4] << 8 | sign;
            }
            x.feed(five[0], five[1], five[2], five[3], five[4]);
        }
        return text.length();
    }

    private static int pairs(WordLinks x, String text) {
        return x.pairs(put(x, text));
    }

    private static int sheets(WordLinks x, String text) {
        return x.sheets(put(x, text));
    }

    private static WordLinks with(String text) {
        WordLinks x = new WordLinks();
        pairs(x, text);
        return x;
    }

    private static String times(String text, int n, String between) {
        StringBuilder b = new StringBuilder();
        for (int k = 0; k < n; k++) {
            b.append(k == 0 ? "" : between).append(text);
        }
        return b.toString();
    }

    /** A word of its own for each number. */
    private static String named(int k) {
        return "" + (char) ('a' + k / 26) + (char) ('a' + k % 26);
    }

    private static void newObject() {
        promise = 1;
        WordLinks x = new WordLinks();
        due("NONE", WordLinks.NONE, -1);
        for (int what = 0; what < 4; what++) {
            due("count", x.count(what), 0);
        }
        due("side", x.side(0, 0), 0);
        due("side", x.side(1, 0), 0);
        due("near", x.near(1, 7), 12500);
        due("undo", x.undo(), false);
        due("matched", x.matched(0), -2);
        due("another object's", with("a=b").count(0) + x.count(0), 1);
    }

    private static void feed() {
        promise = 2;
        WordLinks x = new WordLinks();
        for (int k = 1; k <= 12; k++) {
            due("feed", x.feed(k, -1, 0, Integer.MIN_VALUE, Integer.MAX_VALUE), 20 * k);
        }
        due("feed of a 241st byte", x.feed(0, 0, 0, 0, 0), -1);
        due("count", x.count(2), 240);
        x = new WordLinks();
        x.feed('h' << 24 | 'a' << 16 | 'u' << 8 | 's', '=' << 24 | 'h' << 16 | 'o' << 8 | 'u', 's' << 24 | 'e' << 16, 0, 0);
        due("pairs, the highest byte first", x.pairs(10), 1);
        due("letter", x.word(0, 0, 10), 'h');
        due("letter", x.word(0, 0, 13), 's');
    }

    private static void pairsRead() {
        promise = 3;
        WordLinks x = new WordLinks();
        due("pairs", pairs(x, BOOKS), 3);
        due("tape is empty then", x.count(2), 0);
        due("words", x.side(0, 0), 4);
        due("words", x.side(1, 0), 4);
        due("pairs behind those there are", pairs(x, "haus=house"), 4);
        due("at", x.at(3, 0, 0), 1);
        due("at", x.at(3, 1, 0), 1);
        put(x, "a=b");
        due("n of 0", x.pairs(0), -1);
        due("n of 201", x.pairs(201), -1);
        due("n too great for the tape", x.pairs(21), -1);
        due("n below 0", x.pairs(-1), -1);
        due("tape stays", x.count(2), 20);
        due("pairs", x.pairs(3), 5);
        x = new WordLinks();
        due("six words of seven letters", pairs(x, times("abcdefg", 6, " ") + "=" + times("zyxwvut", 6, " ")), 1);
        due("twelve clauses", pairs(x, times("a b=c", 12, ";")), 13);
        // 199 bytes, then two more letters
        String text = times("abcdef abcdef abcdef=ghi", 8, ";");
        put(x, text + "jkl");
        due("201 bytes", x.pairs(201), -1);
        due("tape stays", x.count(2), 220);
        due("200 bytes", x.pairs(200), 21);
        due("the last letter", x.at(20, 1, 0) == x.at(19, 1, 0), false);
        due("200 bytes, a fault at the last", pairs(x, text + "="), -1199);
    }

    private static void pairsFaults() {
        promise = 3;
        fault("", -1);
        fault(" ", -1000);
        fault("a", -1001);
        fault("a ", -1002);
        fault("a  b=c", -1002);
        fault("a =b", -1002);
        fault("a=", -1002);
        fault("a= b", -1002);
        fault("a=b ", -1004);
        fault("a=b;", -1004);
        fault("a=b;;", -1004);
        fault("a;b", -1001);
        fault("a=b=c", -1003);
        fault("a,b=c", -1001);
        fault("a|b", -1001);
        fault("=b", -1000);
        fault("a\u00e9=b", -1001);
        fault("aB=b", -1001);
        fault("`=b", -1000);
        fault("{=b", -1000);
        fault("abcdefgh=b", -2007);
        fault("abcdefg1=b", -1007);
        fault("a=abcdefgh", -2009);
        fault("a b c d e f g=x", -5012);
        fault("a b c d e f =x", -1012);
        fault("a b c d e f ", -1012);
        fault("x=a b c d e f gg", -5014);
        fault(times("a=b", 12, ";") + ";", -4048);
        fault(times("a=b", 12, ";") + ";?", -4048);
        fault(times("a=b", 13, ";"), -4048);
        fault(times("a=b", 12, ";") + " ", -1048);
        fault(times("a=b", 12, ";") + "bcdefghi;", -2053);
        WordLinks x = with(BOOKS);
        x.rounds(0, 2);
        long fit = x.fit(0, -1);
        due("all or none", pairs(x, "neu=new;x"), -1009);
        due("pairs stay", x.count(0), 3);
        due("words stay", x.side(0, 0), 4);
        due("shares stay", x.fit(0, -1), fit);
        due("tape is empty", x.count(2), 0);
    }

    private static void fault(String text, int want) {
        due("pairs of \"" + text + "\"", pairs(new WordLinks(), text), want);
    }

    private static void pairsLimits() {
        promise = 3;
        WordLinks x = new WordLinks();
        pairs(x, times("a=b", 12, ";"));
        pairs(x, times("a=b", 11, ";"));
        due("25 pairs", pairs(x, "a=b;c=d"), -3);
        due("pairs stay", x.count(0), 23);
        due("words stay", x.side(0, 0), 1);
        due("24 pairs", pairs(x, "a=b"), 24);
        due("a 25th pair", pairs(x, "a=b"), -3);
        due("a fault is ahead of it", pairs(x, "a=b;"), -1004);
        for (int side = 0; side < 2; side++) {
            x = new WordLinks();
            for (int k = 0; k < 39; k += 3) {
                String row = named(k) + " " + named(k + 1) + " " + named(k + 2);
                pairs(x, side == 0 ? row + "=one" : "one=" + row);
            }
            due("words", x.side(side, 0), 39);
            String two = named(39) + " " + named(40);
            due("41 words", pairs(x, side == 0 ? two + "=two" : "two=" + two), -4);
            due("words stay", x.side(side, 0), 39);
            due("words stay", x.side(1 - side, 0), 1);
            String again = named(39) + " " + named(39) + " " + named(0);
            due("40 words", pairs(x, side == 0 ? again + "=two" : "two=" + again), 14);
            due("words", x.side(side, 0), 40);
            due("a 41st word", pairs(x, side == 0 ? "neu=one" : "one=neu"), -4);
            due("24 pairs", pairs(x, times(side == 0 ? named(0) + "=one" : "one=" + named(0), 10, ";")), 24);
            due("too many pairs and words", pairs(x, side == 0 ? "neu=one" : "one=neu"), -3);
        }
    }

    private static void sheetFault(String text, int want) {
        due("sheets of \"" + text + "\"", sheets(new WordLinks(), text), want);
    }

    private static void sheetsRead() {
        promise = 4;
        sheetFault("a", -1001);
        sheetFault("|a", -1000);
        sheetFault("a|", -1002);
        sheetFault("a,|b", -1002);
        sheetFault("a,,b|c", -1002);
        sheetFault("a|b|c", -1003);
        sheetFault("a|b;", -1003);
        sheetFault("a|b,", -1004);
        sheetFault("a=b", -1001);
        sheetFault("a |b", -1002);
        sheetFault("abcdefgh|b", -2007);
        sheetFault("a b c d e f g|b", -5012);
        sheetFault(times("a", 8, ",") + ",", -4016);
        sheetFault(times("a", 8, ",") + ",?", -4016);
        sheetFault(times("a", 9, ",") + "|a", -4016);
        sheetFault("a|" + times("a", 8, ",") + ",", -4018);
        sheetFault("a|" + times("a", 8, ",") + ";", -1017);
        sheetFault(times("a", 8, ",") + "|" + times("b", 8, ","), 16);
        sheetFault("a b,c|d", 3);
        WordLinks x = with("a=b");
        String text = times("abcdefg", 6, " ") + "," + times("abcdefg", 6, " ") + "|" + times("abcdefg", 6, " ") + ","
                + times("abcdefg", 6, " ") + "," + times("a", 3, " ");
        put(x, text + " abcdeff");
        due("201 bytes", x.sheets(201), -1);
        due("200 bytes", x.sheets(200), 5);
        put(x, "a|b");
        due("n of 0", x.sheets(0), -1);
        due("n of 201", x.sheets(201), -1);
        due("n too great", x.sheets(21), -1);
        due("tape stays", x.count(2), 20);
        due("sheets", x.sheets(3), 2);
        due("tape is empty", x.count(2), 0);
        due("words are not told by sheets", x.side(0, 0), 1);
        due("a fault", sheets(x, "a,b|"), -1004);
        due("those before stay", x.matched(2), 1);
        due("in place of those before", sheets(x, "a,b|c"), 3);
        due("matched", x.matched(2), 2);
    }

    private static void matched() {
        promise = 5;
        WordLinks x = new WordLinks();
        due("no sheets", x.matched(1), -2);
        due("no such what, ahead", x.matched(4), -1);
        sheets(x, "abc d,ef|ab cd,efg");
        due("cost", x.matched(0), 10);
        due("parts", x.matched(1), 2);
        due("sentences", x.matched(2), 2);
        due("sentences", x.matched(3), 2);
        due("kind", x.matched(10), 0);
        due("kind", x.matched(11), 0);
        due("not so many", x.matched(12), -4);
        due("not so many", x.matched(25), -4);
        for (int what : new int[] {-1, 4, 9, 26, Integer.MAX_VALUE, Integer.MIN_VALUE}) {
            due("no such what", x.matched(what), -1);
        }
        sheets(x, "aaa,bbb|ccc ddd");
        due("two of side 0", x.matched(10), 3);
        due("cost", x.matched(0), 20);
        sheets(x, "ccc ddd|aaa,bb");
        due("two of side 1", x.matched(10), 4);
        due("cost", x.matched(0), 30);
        sheets(x, "aaaaaaa aaaaaaa|b");
        due("left alone, the lower kind first", x.matched(10), 1);
        due("left alone", x.matched(11), 2);
        due("cost", x.matched(0), 90);
        // (1,1) and (1,0) or (1,0) and (1,1): both 45
        sheets(x, "abcdefg abcd,abcdefg abcd|abcdefg abcd");
        due("of like ones the lower kind first", x.matched(10), 0);
        due("then", x.matched(11), 1);
        due("cost", x.matched(0), 45);
        // 9 letters off cost 90, as leaving both alone does: kind 0 is the lower one
        sheets(x, "abcdefg abc|a");
        due("kind 0 ahead of 1 at like costs", x.matched(10), 0);
        due("parts", x.matched(1), 1);
    }

    private static void joins() {
        promise = 6;
        WordLinks x = new WordLinks();
        due("no sheets", x.joins(), -2);
        sheets(x, "das haus,ein|the,hous,one");
        due("joins", x.joins(), 2);
        due("joined of two", x.at(0, 1, 0), 0);
        due("joined of two", x.at(0, 1, 1), 1);
        due("not of the next", x.at(0, 1, 2), -2);
        due("the next", x.at(1, 1, 0), 2);
        due("sheets stay", x.joins(), 4);
        due("words", x.side(1, 0), 3);
        x = with(BOOKS);
        x.rounds(0, 1);
        x.rounds(1, 1);
        sheets(x, "aaaaaaa aaaaaaa|b");
        due("parts of one side alone don't come", x.joins(), 3);
        due("their words neither", x.side(0, 0), 4);
        due("shares are begun", x.share(0, 0, 0), 33334);
        sheets(x, "neu,alt|new,old");
        due("joins behind those there are", x.joins(), 5);
        due("word", x.at(3, 0, 0), 4);
        sheets(x, "a,a b c d|ab cd e,a b c d e f");
        int before = x.count(0);
        sheets(x, "a b c,a b c d|ab cd efg");
        due("joined in one part", x.matched(10), 3);
        due("seven words", x.joins(), -5);
        due("none came", x.count(0), before);
        sheets(x, "a b c,a b c|ab cd ef");
        due("six words", x.joins(), before + 1);
        x = new WordLinks();
        pairs(x, times("a=b", 12, ";"));
        pairs(x, times("a=b", 11, ";"));
        sheets(x, "a,c|b,d");
        due("25 pairs", x.joins(), -3);
        sheets(x, "a b c,a b c d|ab cd efg");
        due("too long is ahead", x.joins(), -5);
        sheets(x, "a|b");
        due("24 pairs", x.joins(), 24);
        x = new WordLinks();
        for (int k = 0; k < 40; k += 2) {
            pairs(x, named(k) + " " + named(k + 1) + "=one");
        }
        sheets(x, named(0) + ",zz|one,one");
        due("41 words", x.joins(), -4);
        due("pairs", x.count(0), 20);
        sheets(x, "zzzzzzz zz," + named(0) + "|ab");
        due("a 41st word that is left out", x.joins(), 21);
    }

    private static void drop() {
        promise = 7;
        WordLinks x = with(BOOKS);
        x.tell(0, 0, 0, true);
        x.tell(2, 0, 0, true);
        x.rounds(0, 3);
        due("drop", x.drop(), 2);
        due("words go, too", x.side(0, 0), 3);
        due("words go, too", x.side(1, 0), 3);
        due("told links of it are forgotten", x.count(3), 1);
        due("shares are begun", x.share(0, 0, 0), 33334);
        due("no partner any more", x.share(0, 2, 2), 50000);
        due("drop", x.drop(), 1);
        due("pairs again", pairs(x, "das buch=the book;ein buch=a book"), 3);
        due("forgotten for good", x.tell(2, 0, 0, false), -2);
        x.drop();
        x.drop();
        due("drop", x.drop(), 0);
        due("words", x.side(0, 0), 0);
        due("none there", x.drop(), -1);
    }

    private static void rounds() {
        promise = 8;
        WordLinks x = with(BOOKS);
        due("rounds", x.rounds(0, 1), 6);
        due("das for the: counts 90000, 40000, 50000", x.share(0, 0, 0), 50000);
        due("the other way stays", x.share(1, 0, 0), 33334);
        due("no round", x.rounds(0, 0), -1);
        due("31 rounds", x.rounds(0, 31), -1);
        due("no way", x.rounds(2, 1), -1);
        due("no way", x.rounds(-1, 1), -1);
        due("30 rounds", x.rounds(1, 30) > 0, true);
        due("das is the", x.share(1, 0, 0) > 90000, true);
        x = with("a=x");
        due("nothing changes", x.rounds(0, 30), 0);
        // counts of b with x and y: 50000 each; of a with x: 100000 and 50000
        x = with("a b=x y;a=x");
        due("a for x", x.share(0, 0, 0), 50000);
        due("one round", x.rounds(0, 1), 2);
        due("a for x", x.share(0, 0, 0), 75000);
        due("a for y", x.share(0, 0, 1), 25000);
        due("b for x", x.share(0, 1, 0), 50000);
        // x: 75000 to 50000, so 60000 and 40000, and 100000; y: 25000 to 50000, so 33333 and 66667
        due("second round", x.rounds(0, 1), 4);
        due("a: 160000 to 33333", x.share(0, 0, 0), 82759);
        due("b: 40000 to 66667", x.share(0, 1, 0), 37500);
    }

    private static void even() {
        promise = 9;
        WordLinks x = with(BOOKS);
        due("nothing was other", x.even(), 0);
        int one = x.rounds(0, 1);
        int other = x.rounds(1, 2);
        due("both ways", x.even(), one + other);
        due("begun", x.share(0, 0, 0), 33334);
        x.placed(true);
        x.rounds(1, 1);
        due("near", x.near(1, 0) == 12500, false);
        x.even();
        due("near shares are begun", x.near(1, 0), 12500);
        due("placed stays", x.placed(true), false);
    }

    private static void byLetters() {
        promise = 10;
        WordLinks x = with(BOOKS);
        due("it is so", x.byLetters(false), false);
        x.rounds(0, 1);
        int share = x.share(0, 0, 0);
        due("it is so, shares stay", x.byLetters(false), false);
        due("share", x.share(0, 0, 0), share);
        due("by letters", x.byLetters(true), true);
        // das: the 1, house 1 + 3 * 1 (s), book 1
        due("share", x.share(0, 0, 0), 16667);
        due("share", x.share(0, 0, 1), 66667);
        due("share", x.share(0, 0, 2), 16666);
        x.rounds(0, 1);
        due("even stays by letters", x.even() > 0, true);
        due("share", x.share(0, 0, 1), 66667);
        pairs(x, "haus=house");
        due("begun by letters when pairs come", x.share(0, 0, 1), 66667);
        due("no more", x.byLetters(false), true);
        due("share", x.share(0, 0, 0), 33334);
    }

    private static void placed() {
        promise = 11;
        WordLinks x = with("a b=x y;a b=x y");
        due("placed", x.placed(true), true);
        due("it is so", x.placed(true), false);
        due("shares don't change", x.share(0, 0, 0), 50000);
        due("near shares don't change", x.near(0, 4), 12500);
        due("part", x.part(0, 0, 0, 0), 50000);
        x.rounds(0, 1);
        due("near", x.near(0, 0), 50000);
        due("near", x.near(0, 4), 50000);
        due("not any more", x.placed(false), true);
        due("near shares stay", x.near(0, 0), 50000);
        due("it is so", x.placed(false), false);
        // a and b of near 0 and 4 for x: a b c=x y z has nearness 0, 2, 5
        x = with("a b c=x y z;a=x");
        x.placed(true);
        x.rounds(0, 1);
        due("near 1", x.near(0, 1), 0);
        due("near 2 has cut 8 * 3 / 9", x.near(0, 2) > 0, true);
        due("near 5 has cut 8 * 6 / 9", x.near(0, 5) > 0, true);
        due("a share of 0 counts", x.part(0, 0, 0, 0) > x.part(0, 0, 1, 0), true);
        // worth counts near: 50000 and less for x
        due("links follow worth", x.links(0, 0, 0) & 1, 1);
    }

    private static void near() {
        promise = 12;
        WordLinks x = new WordLinks();
        for (int k = 0; k < 8; k++) {
            due("near", x.near(0, k), 12500);
        }
        due("no such", x.near(0, 8), -1);
        due("no such", x.near(0, -1), -1);
        due("no such way", x.near(2, 0), -1);
        due("no such way", x.near(-1, 0), -1);
        pairs(x, "a b=x y;b=y");
        x.placed(true);
        x.rounds(0, 1);
        // six ends: x 50000 and 50000 (near 0 and 4), y the same, b for y 100000 (near 0)
        due("near 0", x.near(0, 0), 66667);
        due("near 4", x.near(0, 4), 33333);
        due("the other way's", x.near(1, 0), 12500);
        pairs(x, "c=z");
        due("begun again", x.near(0, 0), 12500);
        x = with("a=u v w x y z");
        x.placed(true);
        x.rounds(0, 1);
        due("6 words: j * 8 / 6 is 0, 1, 2, 4, 5, 6", x.near(0, 3), 0);
        due("near 0", x.near(0, 0), 16667);
        due("near 6", x.near(0, 6), 16666);
        due("near 7", x.near(0, 7), 0);
    }

    private static void likeness() {
        promise = 13;
        WordLinks x = with("das haus abcdefg=the house gfedcba;banane aaa=ananas xaxaxax");
        due("das, the", x.likeness(0, 0), 0);
        due("haus, house", x.likeness(1, 1), 3);
        due("turned round", x.likeness(2, 2), 1);
        due("banane, ananas", x.likeness(3, 3), 4);
        due("aaa, xaxaxax", x.likeness(4, 4), 3);
        due("no such", x.likeness(5, 0), -1);
        due("no such", x.likeness(0, 5), -1);
        due("no such", x.likeness(-1, 0), -1);
        due("no such", x.likeness(0, -1), -1);
    }

    private static void least() {
        promise = 14;
        WordLinks x = with("a b=x y;a=x");
        due("least", x.least(100000), 0);
        due("least", x.count(1), 100000);
        due("no link", x.linked(3, -1), 0);
        due("no such", x.least(100001), -1);
        due("no such", x.least(-1), -1);
        due("it stays", x.least(50000), 100000);
        due("just not below", x.linked(0, 1), 1);
        x.least(50001);
        due("below", x.linked(0, 1), 0);
        due("least", x.least(0), 50001);
    }

    private static void side() {
        promise = 15;
        WordLinks x = with(BOOKS);
        due("words", x.side(0, 0), 4);
        due("places", x.side(0, 1), 6);
        due("places", x.side(1, 1), 6);
        pairs(x, "haus=the the house");
        due("places", x.side(0, 1), 7);
        due("places", x.side(1, 1), 9);
        due("words", x.side(1, 0), 4);
        due("no such", x.side(0, 2), -1);
        due("no such", x.side(0, -1), -1);
        due("no such", x.side(2, 0), -1);
        due("no such", x.side(-1, 0), -1);
    }

    private static void word() {
        promise = 16;
        WordLinks x = with("das haus=the house;das buch da=the book;d=book book");
        due("letters", x.word(0, 1, 0), 4);
        due("places", x.word(0, 0, 1), 2);
        due("places, twice in one", x.word(1, 2, 1), 3);
        due("partners", x.word(0, 0, 2), 3);
        due("first partner, of like ones the lowest", x.word(0, 1, 3), 0);
        due("its share", x.word(0, 1, 4), 50000);
        due("shares of 0", x.word(0, 0, 5), 0);
        due("buch", x.word(0, 2, 6), 0);
        due("d", x.word(0, 4, 6), 1);
        due("da", x.word(0, 3, 6), 2);
        due("das", x.word(0, 0, 6), 3);
        due("haus", x.word(0, 1, 6), 4);
        due("side 1", x.word(1, 2, 2), 4);
        due("letter", x.word(0, 1, 10), 'h');
        due("letter", x.word(0, 1, 13), 's');
        due("not so many", x.word(0, 1, 14), -4);
        due("not so many", x.word(0, 1, 16), -4);
        for (int what : new int[] {-1, 7, 9, 17}) {
            due("no such what", x.word(0, 0, what), -1);
        }
        due("no such word", x.word(0, 5, 0), -1);
        due("no such word", x.word(0, -1, 0), -1);
        due("no such side", x.word(2, 0, 0), -1);
        x.rounds(0, 30);
        due("greatest behind rounds", x.word(0, 0, 3), 0);
        due("its share", x.word(0, 0, 4), x.share(0, 0, 0));
        // all of x goes to a in the end: b keeps nothing for x
        x = with("a b=x y;a=x;b=y");
        for (int k = 0; k < 3; k++) {
            x.rounds(0, 30);
        }
        due("a share of 0", x.word(0, 0, 5), 1);
        due("its place", x.share(0, 0, 1), 0);
    }

    private static void find() {
        promise = 17;
        WordLinks x = with("das haus=the house;abcdefg=das");
        due("find", x.find(0, put(x, "haus")), 1);
        due("tape is empty", x.count(2), 0);
        due("seven letters", x.find(0, put(x, "abcdefg")), 2);
        due("side 1", x.find(1, put(x, "das")), 2);
        due("none such", x.find(1, put(x, "haus")), -2);
        due("tape is empty", x.count(2), 0);
        due("a beginning", x.find(0, put(x, "hau")), -2);
        due("no letters", x.find(0, put(x, "das h")), -2);
        due("no letters", x.find(0, put(x, "DAS")), -2);
        put(x, "das");
        due("no such n", x.find(0, 0), -1);
        due("no such n", x.find(0, 8), -1);
        due("no such side", x.find(2, 3), -1);
        due("no such side", x.find(-1, 3), -1);
        due("tape stays", x.count(2), 20);
        due("find", x.find(0, 3), 0);
        due("not so many bytes", x.find(0, 1), -1);
    }

    private static void share() {
        promise = 18;
        WordLinks x = with(BOOKS);
        due("the first gets what is left", x.share(0, 0, 0), 33334);
        due("share", x.share(0, 0, 1), 33333);
        due("share", x.share(0, 0, 2), 33333);
        due("no partner", x.share(0, 0, 3), -2);
        due("back", x.share(1, 3, 3), 50000);
        due("back, no partner", x.share(1, 3, 0), -2);
        due("no such", x.share(0, 4, 0), -1);
        due("no such", x.share(0, 0, 4), -1);
        due("no such", x.share(0, -1, 0), -1);
        due("no such", x.share(0, 0, -1), -1);
        due("no such way", x.share(2, 0, 0), -1);
        x = with("a=t u v w x y;a=n");
        due("seven partners: 14285 and 5 left", x.share(0, 0, 4), 14286);
        due("behind those", x.share(0, 0, 5), 14285);
    }

    private static void best() {
        promise = 19;
        WordLinks x = with("a b=x y;b=y z");
        due("of like ones the lowest first", x.best(0, 1, 0, 0), 0);
        due("second", x.best(0, 1, 1, 0), 1);
        due("third", x.best(0, 1, 2, 0), 2);
        x.rounds(0, 1);
        // b: x 40000, y 40000 + 100000, z 100000
        due("first", x.best(0, 1, 0, 0), 1);
        due("its share", x.best(0, 1, 0, 1), x.share(0, 1, 1));
        due("second", x.best(0, 1, 1, 0), 2);
        due("third", x.best(0, 1, 2, 0), 0);
        due("its share", x.best(0, 1, 2, 1), x.share(0, 1, 0));
        due("not so many", x.best(0, 1, 3, 0), -4);
        due("not so many", x.best(0, 1, Integer.MAX_VALUE, 0), -4);
        due("k below 0", x.best(0, 1, -1, 0), -1);
        due("no such what", x.best(0, 1, 0, 2), -1);
        due("no such what, ahead", x.best(0, 1, 9, -1), -1);
        due("no such word", x.best(0, 2, 0, 0), -1);
        due("no such way", x.best(2, 0, 0, 0), -1);
        due("back", x.best(1, 1, 0, 0), 0);
    }

    private static void at() {
        promise = 20;
        WordLinks x = with(BOOKS);
        due("at", x.at(1, 0, 1), 2);
        due("at", x.at(2, 1, 0), 3);
        due("not so many", x.at(1, 0, 2), -2);
        due("not so many", x.at(1, 1, 5), -2);
        due("no such place", x.at(1, 0, 6), -1);
        due("no such place", x.at(1, 0, -1), -1);
        due("no such pair", x.at(3, 0, 0), -1);
        due("no such pair", x.at(-1, 0, 0), -1);
        due("no such side", x.at(0, 2, 0), -1);
        due("no such pair, ahead", x.at(3, 0, 5), -1);
    }

    private static void fit() {
        promise = 21;
        WordLinks x = with(BOOKS);
        due("fit", x.fit(0, 0), 33334 + 33333 + 50000 + 50000);
        due("back", x.fit(1, 2), 33333 + 33333 + 50000 + 50000);
        due("all", x.fit(0, -1), x.fit(0, 0) + x.fit(0, 1) + x.fit(0, 2));
        due("no such", x.fit(0, 3), -2);
        due("no such", x.fit(0, -2), -2);
        due("no such way", x.fit(2, 0), -2);
        due("no such way", x.fit(-1, -1), -2);
        x = with("a a=x x");
        due("each with each", x.fit(0, 0), 400000);
    }

    private static void part() {
        promise = 22;
        WordLinks x = with(BOOKS);
        due("part", x.part(0, 0, 0, 0), 40000);
        due("part", x.part(0, 0, 1, 0), 60000);
        due("back", x.part(1, 2, 0, 1) + x.part(1, 2, 1, 1), 100000);
        due("no such place", x.part(0, 0, 2, 0), -1);
        due("no such place", x.part(0, 0, 0, 2), -1);
        due("no such place", x.part(0, 0, -1, 0), -1);
        due("no such pair", x.part(0, 3, 0, 0), -1);
        due("no such way", x.part(2, 0, 0, 0), -1);
        x = with("a=x y z");
        due("a way back goes from side 1", x.part(1, 0, 2, 0), 33333);
        due("places of a way back", x.part(1, 0, 0, 1), -1);
        due("of like rests the first", x.part(1, 0, 0, 0), 33334);
    }

    private static void counted() {
        promise = 23;
        WordLinks x = with(BOOKS);
        due("counted", x.counted(0, 0, 0), 90000);
        due("counted", x.counted(0, 2, 2), 90000);
        due("no partner", x.counted(0, 0, 3), -2);
        due("no such", x.counted(0, 4, 0), -1);
        due("no such", x.counted(0, 0, 4), -1);
        due("no such", x.counted(2, 0, 0), -1);
        due("nothing stays", x.share(0, 0, 0), 33334);
        x = with("a a=x x");
        due("each place", x.counted(0, 0, 0), 200000);
        x = with("a b=x;b=x");
        due("back", x.counted(1, 0, 1), 200000);
        due("forth", x.counted(0, 1, 0), 150000);
    }

    private static void links() {
        promise = 24;
        WordLinks x = with(BOOKS);
        due("kind 0", x.links(0, 0, 0), 0);
        due("kind 0", x.links(0, 0, 1), 3);
        due("kind 1", x.links(1, 0, 0), 2);
        due("kind 1", x.links(1, 0, 1), 2);
        due("kind 2", x.links(2, 0, 1), 2);
        due("kind 3", x.links(3, 0, 1), 3);
        due("no such kind", x.links(6, 0, 0), -1);
        due("no such kind", x.links(-1, 0, 0), -1);
        due("no such pair", x.links(0, 3, 0), -1);
        due("no such place", x.links(0, 0, 2), -1);
        due("no such place", x.links(0, 0, -1), -1);
        // like worth: i * 2 less j * 4 nearest to 0, of like ones the least i
        x = with("a a a a=x x");
        due("j 0 goes to i 0", x.links(0, 0, 0), 1);
        due("j 1 goes to i 2", x.links(0, 0, 2), 2);
        due("none to i 1", x.links(0, 0, 1), 0);
        // i 1 is as near to j 0 as to j 1: the least j
        due("kind 1, i 1", x.links(1, 0, 1), 1);
        due("kind 1, i 3", x.links(1, 0, 3), 2);
        due("kind 1, i 2", x.links(1, 0, 2), 2);
        x = with("a a=x x x x");
        due("j 1 is as near to i 0 as to i 1", x.links(0, 0, 0), 3);
        // least counts the share alone, also where places count
        x = with("a b=x y");
        x.placed(true);
        x.least(50000);
        due("share, not worth", x.linked(0, 0), 2);
    }

    private static void grownLinks() {
        promise = 24;
        // begun evenly; forth all of b, back all of y: both only (1, 1)
        WordLinks x = with("a b=x y;a=z;x=x");
        due("kind 0", x.links(0, 0, 1), 3);
        due("kind 1", x.links(1, 0, 0) | x.links(1, 0, 1), 2);
        due("kind 2", x.linked(2, 0), 1);
        due("kind 4 takes neighbours with a bare end", x.linked(4, 0), 3);
        // u only in one pair, its only neighbours far off
        x = with("a b c=x y z;b=q;c=q;y=y;z=z;y=z");
        due("kind 3 has kind 4 has kind 2",
                (x.links(4, 0, 0) & ~x.links(3, 0, 0)) | (x.links(2, 0, 0) & ~x.links(4, 0, 0)), 0);
        x = with("a b c d=w x y z;b=x;d=z;a=z;q=w");
        x.least(40000);
        for (int i = 0; i < 4; i++) {
            due("kind 5 has kind 4", x.links(4, 0, i) & ~x.links(5, 0, i), 0);
            due("kind 3 has kind 5", x.links(5, 0, i) & ~x.links(3, 0, i), 0);
        }
    }

    private static void linked() {
        promise = 25;
        WordLinks x = with(BOOKS);
        due("kind 4", x.linked(4, 0), 3);
        due("all", x.linked(2, -1), 4);
        due("all are the sum", x.linked(3, -1), x.linked(3, 0) + x.linked(3, 1) + x.linked(3, 2));
        due("no such pair", x.linked(0, 3), -2);
        due("no such pair", x.linked(0, -2), -2);
        due("no such kind", x.linked(6, -1), -2);
        due("no such kind", x.linked(-1, 0), -2);
    }

    private static void pair() {
        promise = 26;
        WordLinks x = with(BOOKS);
        due("boxes", x.pair(4, 0, 0), 1);
        due("boxes: b with both, and with a, too", x.pair(0, 0, 0), 2);
        due("bare of side 0", x.pair(0, 0, 1), 1);
        due("bare of side 1", x.pair(0, 0, 2), 0);
        due("bare of side 1", x.pair(1, 0, 2), 1);
        due("crossing", x.pair(4, 0, 3), 1);
        due("no such kind", x.pair(6, 0, 0), -1);
        due("no such pair", x.pair(0, 3, 0), -1);
        due("no such what", x.pair(0, 0, 4), -1);
        due("no such what", x.pair(0, 0, -1), -1);
        x = with("a=x");
        due("one box", x.pair(2, 0, 0), 1);
        x = with("a b c d=w x y z");
        x.placed(false);
        // like shares: (0,0) (1,1) (2,2) (3,3): one place 4, two 3, three 2; four is too many
        due("boxes of three places at most", x.pair(2, 0, 0), 9);
        due("nothing crosses", x.pair(2, 0, 3), 0);
    }

    private static void cut() {
        promise = 27;
        WordLinks x = with("a b c d=w x y z");
        due("i", x.cut(2, 0, 0), 1);
        due("j", x.cut(2, 0, 1), 1);
        due("links", x.cut(2, 0, 2), 0);
        due("no such what", x.cut(2, 0, 3), -1);
        due("no such what", x.cut(2, 0, -1), -1);
        due("no such kind", x.cut(6, 0, 0), -1);
        due("no such pair", x.cut(0, 1, 0), -1);
        x = with("a=x y;a b=x");
        due("one word alone", x.cut(0, 0, 0), -2);
        due("one word alone", x.cut(0, 1, 2), -2);
        due("no such what, ahead", x.cut(0, 0, 3), -1);
        x = with("a b=x y;a=y;a=y;b=x;b=x");
        x.rounds(0, 5);
        x.rounds(1, 5);
        due("crossed", x.pair(2, 0, 3), 1);
        due("links across", x.cut(2, 0, 2), 2);
        due("i", x.cut(2, 0, 0), 1);
        // c goes with x, b with y, a with z: the best cut has two links across at (1, 1) and (2, 2) more
        x = with("a b c=x y z;a=y;b=x;c=z");
        x.rounds(0, 9);
        x.rounds(1, 9);
        due("behind both that cross", x.cut(2, 0, 0), 2);
        due("behind both that cross", x.cut(2, 0, 1), 2);
        due("none across", x.cut(2, 0, 2), 0);
    }

    private static void partings() {
        promise = 28;
        WordLinks x = with("a=x y z;a b=x y");
        due("one place alone", x.partings(0, 0), 1);
        x = with("a b c d=w x y z");
        x.least(100000);
        due("without links 2 by 2 comes apart in 2 ways; 4 by 4", x.partings(2, 0), apart(4, 4));
        x = with("a b=x y");
        due("linked straight", x.partings(2, 0), 1);
        x.least(100000);
        due("without links", x.partings(2, 0), 2);
        x = with("a b c=x y z");
        // (0,0) (1,1) (2,2): cuts (1,1), (2,2) straight, 1 * 1 each
        due("three in a row", x.partings(2, 0), 2);
        x.least(100000);
        due("three by three without links", x.partings(2, 0), apart(3, 3));
        x = with("a b c d e f=u v w x y z");
        x.least(100000);
        due("six by six without links", x.partings(3, 0), apart(6, 6));
        due("no such kind", x.partings(6, 0), -1);
        due("no such pair", x.partings(0, 1), -1);
        due("no such pair", x.partings(0, -1), -1);
    }

    /** Without links every cut goes both ways. */
    private static long apart(int p, int q) {
        long all = 0;
        for (int i = 1; i < p; i++) {
            for (int j = 1; j < q; j++) {
                all += apart(i, j) * apart(p - i, q - j) + apart(i, q - j) * apart(p - i, j);
            }
        }
        return p == 1 || q == 1 ? 1 : all;
    }

    private static void phrases() {
        promise = 29;
        WordLinks x = with(BOOKS);
        due("phrases", x.phrases(2), 11);
        due("no such kind", x.phrases(6), -1);
        due("no such kind", x.phrases(-1), -1);
        x = with("a=x;a=x;a=x");
        due("like ones count once", x.phrases(0), 1);
        due("boxes", x.phrase(0, 0, 0), 3);
        x = with("a b c d=w x y z");
        due("phrases", x.phrases(2), 9);
        x.least(100000);
        due("no links", x.phrases(2), 0);
    }

    private static void phrase() {
        promise = 30;
        WordLinks x = with("b=y;a=x;b a=y x");
        x.rounds(0, 9);
        x.rounds(1, 9);
        // rows by number (b 0, a 1; y 0, x 1): 0=0, 0 1=0 1, 1=1
        due("phrases", x.phrases(2), 3);
        int[][] want = {{2, 1, 1, 2, 50}, {1, 2, 2, 1, 50}, {2, 1, 1, 2, 50}};
        for (int k = 0; k < 3; k++) {
            for (int what = 0; what < 5; what++) {
                due("phrase " + k + " what " + what, x.phrase(2, k, what), want[k][what]);
            }
        }
        due("word", x.phrase(2, 1, 10), 0);
        due("word", x.phrase(2, 1, 11), 1);
        due("not so many", x.phrase(2, 1, 12), -4);
        due("word of side 1", x.phrase(2, 1, 21), 1);
        due("not so many", x.phrase(2, 0, 21), -4);
        for (int what : new int[] {-1, 5, 9, 13, 19, 23, 30}) {
            due("no such what", x.phrase(2, 0, what), -1);
        }
        due("no such phrase", x.phrase(2, 3, 0), -1);
        due("no such phrase", x.phrase(2, -1, 0), -1);
        due("no such kind", x.phrase(6, 0, 0), -1);
        x = with("a=x;a=y;a=y");
        due("a third, cut: 1050 less 333", x.phrase(0, 0, 4), 717);
        due("two thirds: 1050 less 666", x.phrase(0, 1, 4), 384);
        due("boxes of its row", x.phrase(0, 0, 3), 3);
    }

    private static int over(WordLinks x, int kind, String text, int what) {
        return x.over(kind, put(x, text), what);
    }

    private static void over() {
        promise = 31;
        WordLinks x = with("b=y;a=x;b a=y x");
        x.rounds(0, 9);
        x.rounds(1, 9);
        due("cost", over(x, 2, "a", 0), 50);
        due("tape is empty", x.count(2), 0);
        due("one phrase is cheaper than two", over(x, 2, "b a", 0), 50);
        due("pieces", over(x, 2, "b a", 1), 1);
        due("words", over(x, 2, "b a", 2), 2);
        due("piece", over(x, 2, "b a", 10), 1);
        due("not so many pieces", over(x, 2, "b a", 11), -4);
        due("word", over(x, 2, "b a", 100), 0);
        due("word", over(x, 2, "b a", 101), 1);
        due("not so many words", over(x, 2, "b a", 102), -4);
        due("two phrases", over(x, 2, "a b", 0), 100);
        due("piece", over(x, 2, "a b", 10), 2);
        due("piece", over(x, 2, "a b", 11), 0);
        due("eight words", over(x, 2, "a a a a b b b b", 0), 400);
        due("nine words", over(x, 2, "a a a a a b b b b", 0), -2);
        due("not known", over(x, 2, "a c", 0), -2);
        due("tape is empty", x.count(2), 0);
        for (String bad : new String[] {" a", "a ", "a  b", "A", "a=b", "abcdefgh", "a;b"}) {
            due("no such row: " + bad, over(x, 2, bad, 0), -2);
        }
        String longest = times("a", 8, " ") + times(" ", 66, "");
        put(x, longest);
        due("81 bytes", x.over(2, 81, 0), -1);
        due("80 bytes, but no such row", x.over(2, 80, 0), -2);
        due("tape is empty", x.count(2), 0);
        put(x, "a");
        for (int what : new int[] {-1, 3, 9, 18, 99, 124}) {
            due("no such what", x.over(2, 1, what), -1);
        }
        due("no such kind", x.over(6, 1, 0), -1);
        due("no such n", x.over(2, 0, 0), -1);
        due("no such n", x.over(2, 81, 0), -1);
        due("not so many bytes", x.over(2, 21, 0), -1);
        due("tape stays", x.count(2), 20);
        due("over", x.over(2, 1, 0), 50);
        x.least(100000);
        pairs(x, "c d=z w");
        due("left as it is", over(x, 0, "c d", 0), 4000);
        due("pieces", over(x, 0, "c d", 1), 2);
        due("left counts as a word", over(x, 0, "c d", 2), 2);
        due("left piece", over(x, 0, "c d", 11), 9999);
        due("left word", over(x, 0, "c d", 100), -3);
        due("not so many words", over(x, 0, "c d", 102), -4);
    }

    private static void overTies() {
        promise = 31;
        // a=x and a=y cost 550 each: the lower phrase
        WordLinks x = with("a=x;a=y");
        due("of like ones the lower phrase", over(x, 0, "a", 10), 0);
        due("cost", over(x, 0, "a", 0), 550);
        // a b c d in one pair: a, a b, a b c and so on cost 50 each: the fewest pieces, then the lower phrase first
        x = with("a b c d=w x y z");
        due("cost", over(x, 2, "a b c d", 0), 100);
        due("pieces", over(x, 2, "a b c d", 1), 2);
        due("a ahead of a b and a b c", over(x, 2, "a b c d", 10), 0);
        due("then b c d", over(x, 2, "a b c d", 11), 5);
        due("words", over(x, 2, "a b c d", 2), 4);
        due("word", over(x, 2, "a b c d", 103), 3);
    }

    private static void tell() {
        promise = 32;
        WordLinks x = with(BOOKS);
        due("tell", x.tell(0, 0, 0, true), 1);
        due("it is so", x.tell(0, 0, 0, true), -2);
        due("tell", x.tell(0, 1, 1, true), 2);
        due("another pair", x.tell(2, 1, 0, true), 1);
        due("told links", x.count(3), 3);
        due("no more", x.tell(0, 0, 0, false), 1);
        due("it is so", x.tell(0, 0, 0, false), -2);
        due("no more", x.tell(0, 1, 1, false), 0);
        due("no such place", x.tell(0, 2, 0, true), -1);
        due("no such place", x.tell(0, 0, 2, true), -1);
        due("no such place", x.tell(0, -1, 0, true), -1);
        due("no such pair", x.tell(3, 0, 0, true), -1);
        due("told links", x.count(3), 1);
        pairs(x, "neu=new");
        x.even();
        due("told links stay", x.count(3), 1);
    }

    private static void agree() {
        promise = 33;
        WordLinks x = with("a b=x y;c=z");
        due("without", x.agree(2), 0);
        x.tell(0, 0, 0, true);
        // links (0, 0), (1, 1), told (0, 0): 2 by 3; the pair of c has none told
        due("agree", x.agree(2), 6666);
        x.tell(0, 1, 1, true);
        due("agree", x.agree(2), 10000);
        x.tell(1, 0, 0, true);
        x.tell(0, 1, 0, true);
        due("of all pairs: 6 by 7", x.agree(2), 8571);
        x.least(100000);
        x.tell(1, 0, 0, false);
        due("no links", x.agree(2), 0);
        due("no such kind", x.agree(6), -1);
        due("no such kind", x.agree(-1), -1);
    }

    private static void twins() {
        promise = 34;
        WordLinks x = with(BOOKS);
        // das: the; the: das; haus and buch: the; ein: book, the lower one of like ones; book: das
        due("how many", x.twins(0), 1);
        due("das, the", x.twins(10), 0);
        due("none", x.twins(11), -2);
        due("none", x.twins(13), -2);
        due("no such", x.twins(14), -1);
        due("no such", x.twins(9), -1);
        due("no such", x.twins(1), -1);
        due("no such", x.twins(-1), -1);
        x.rounds(0, 20);
        x.rounds(1, 20);
        due("behind rounds", x.twins(0), 4);
        due("buch, book", x.twins(12), 2);
    }

    private static void tried() {
        promise = 35;
        WordLinks x = with(BOOKS);
        x.tell(0, 0, 0, true);
        x.tell(0, 1, 1, true);
        long fit = x.fit(0, -1);
        WordLinks y = with(BOOKS);
        y.tell(0, 0, 0, true);
        y.tell(0, 1, 1, true);
        y.rounds(0, 5);
        y.rounds(1, 5);
        due("links of kind 2", x.tried(5, 0), y.linked(2, -1));
        due("links of kind 3", x.tried(5, 1), y.linked(3, -1));
        due("twins", x.tried(5, 2), y.twins(0));
        due("agree of kind 4", x.tried(5, 3), y.agree(4));
        due("agree of kind 4", x.tried(5, 3), 10000);
        int full = 20;
        for (int way = 0; way < 2; way++) {
            for (int u = 0; u < 4; u++) {
                full -= y.word(way, u, 5);
            }
        }
        due("shares not 0", x.tried(5, 4), full);
        due("nothing stays", x.fit(0, -1), fit);
        due("nothing stays", x.even(), 0);
        // behind two rounds no link of the second pair is in both, so none grows; kind 5 has two
        y = with("d=y;c b=w x y");
        y.tell(1, 0, 0, true);
        due("agree of kind 4, not of 5", y.tried(2, 3), 0);
        y.rounds(0, 2);
        y.rounds(1, 2);
        due("kind 4", y.linked(4, 1), 0);
        due("kind 5", y.linked(5, 1), 2);
        due("kind 5 agrees", y.agree(5), 6666);
        x.placed(true);
        x.tried(3, 0);
        due("near shares neither", x.near(0, 0), 12500);
        due("no such n", x.tried(0, 0), -1);
        due("no such n", x.tried(31, 0), -1);
        due("no such what", x.tried(1, 5), -1);
        due("no such what", x.tried(1, -1), -1);
    }

    private static void bestRounds() {
        promise = 36;
        WordLinks x = with(BOOKS);
        due("without told links", x.bestRounds(2), 0);
        x.tell(0, 0, 0, true);
        x.tell(0, 1, 1, true);
        long fit = x.fit(1, -1);
        int want = x.bestRounds(2);
        due("nothing stays", x.fit(1, -1), fit);
        due("rounds are needed", want > 0, true);
        int before = x.agree(2);
        for (int k = 1; k <= want; k++) {
            due("not yet the greatest", before < 10000, true);
            x.rounds(0, 1);
            x.rounds(1, 1);
            before = x.agree(2);
        }
        due("the greatest", before, 10000);
        due("now none is needed", x.bestRounds(2), 0);
        // a share that rises slowly: it is not below least behind the thirtieth round alone
        x = with("a=x;b a=y");
        WordLinks y = with("a=x;b a=y");
        y.rounds(0, 29);
        int nearly = y.share(0, 0, 0);
        y.rounds(0, 1);
        x.least(y.share(0, 0, 0));
        due("the share rises still", nearly < y.share(0, 0, 0), true);
        x.tell(0, 0, 0, true);
        due("thirty rounds", x.bestRounds(0), 30);
        due("no such kind", x.bestRounds(6), -1);
        due("no such kind", x.bestRounds(-1), -1);
    }

    private static void keepAndUndo() {
        promise = 37;
        WordLinks x = with(BOOKS);
        promise = 38;
        due("nothing was kept", x.undo(), false);
        promise = 37;
        x.placed(true);
        x.byLetters(true);
        x.rounds(0, 3);
        x.least(777);
        x.tell(1, 1, 1, true);
        sheets(x, "a,b|c");
        long fit = x.fit(0, -1);
        int near = x.near(0, 0);
        due("keep", x.keep(), 3);
        promise = 38;
        pairs(x, "neu=new");
        x.drop();
        x.drop();
        x.byLetters(false);
        x.placed(false);
        x.least(0);
        x.tell(0, 0, 0, true);
        sheets(x, "a|c");
        put(x, "zz");
        for (int k = 0; k < 2; k++) {
            due("undo", x.undo(), true);
            due("pairs", x.count(0), 3);
            due("words", x.side(0, 0), 4);
            due("fit", x.fit(0, -1), fit);
            due("near", x.near(0, 0), near);
            due("least", x.count(1), 777);
            due("told", x.count(3), 1);
            due("told", x.tell(1, 1, 1, true), -2);
            due("sheets", x.matched(2), 2);
            due("the tape stays as it is", x.count(2), 20);
            due("placed", x.placed(true), false);
            due("by letters", x.byLetters(true), false);
            x.drop();
            x.drop();
            x.drop();
            x.least(5);
        }
        x.keep();
        due("kept anew", x.undo(), true);
        due("kept anew", x.count(0), 0);
        x = new WordLinks();
        due("keep of nothing", x.keep(), 0);
        sheets(x, "a|c");
        x.undo();
        due("no sheets", x.matched(0), -2);
    }

    private static int check(WordLinks x, int... places) {
        StringBuilder b = new StringBuilder();
        for (int place : places) {
            b.append((char) place);
        }
        return x.check(put(x, b.toString()));
    }

    private static void check() {
        promise = 39;
        WordLinks x = with("a b=x y");
        due("right", check(x, 0, 1), -1);
        due("tape is empty", x.count(2), 0);
        due("the first is wrong", check(x, 1, 1), 0);
        due("the second is wrong", check(x, 0, 0), 1);
        due("a beginning is right", check(x, 0), -1);
        due("none told, but linked", check(x, 255), 0);
        due("behind the sentence's end nothing is right", check(x, 0, 1, 255), 2);
        due("behind the sentence's end", check(x, 0, 1, 0), 2);
        put(x, "abc");
        due("no such n", x.check(7), -2);
        due("no such n", x.check(-1), -2);
        due("tape stays", x.count(2), 20);
        due("no bytes", x.check(0), -1);
        due("tape is empty", x.count(2), 0);
        due("not so many bytes", x.check(1), -2);
        x.least(100000);
        due("no links", check(x, 255, 255), -1);
        due("no links", check(x, 255, 0), 1);
        x = new WordLinks();
        due("without pairs nothing is", check(x, 255), 0);
        due("no bytes", x.check(0), -1);
    }

    private static void count() {
        promise = 40;
        WordLinks x = with(BOOKS);
        x.least(12);
        x.tell(0, 0, 0, true);
        x.tell(1, 0, 0, true);
        put(x, "a");
        due("pairs", x.count(0), 3);
        due("least", x.count(1), 12);
        due("bytes", x.count(2), 20);
        due("told links", x.count(3), 2);
        due("no such", x.count(4), -1);
        due("no such", x.count(-1), -1);
    }

    /** Wrong arguments of every kind, with whatever is on the tape: nothing is thrown and nothing changes. */
    private static void tapeAfterRefusals() {
        promise = 0;
        int[] odd = {Integer.MIN_VALUE, -2, -1, 7, 41, 300, Integer.MAX_VALUE};
        WordLinks x = with(BOOKS);
        x.rounds(0, 2);
        long fit = x.fit(0, -1);
        int refused = 0;
        for (int a : odd) {
            for (int b : new int[] {a, 0}) {
                x.best(a, b, a, b);
                x.part(b, a, a, b);
                x.phrase(b, a, a);
                x.over(b, a, a);
                x.word(b, a, a);
                x.links(a, b, a);
                x.fit(a, a);
                x.pair(b, a, a);
                x.cut(a, b, a);
                x.partings(a, b);
                x.likeness(a, a);
                x.counted(b, a, a);
                x.share(b, a, a);
                x.at(b, a, a);
                refused += x.tell(b, a, a, true) == -1 ? 1 : 0;
            }
        }
        due("tell", refused, 14);
        due("fit", x.fit(0, -1), fit);
        due("told", x.count(3), 0);
        due("pairs", x.count(0), 3);
    }
}

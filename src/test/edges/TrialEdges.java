import java.util.function.Supplier;

/** Edges of promises 32 to 40: told links, how far ours agree, twins, trials, what is kept, checked and counted. */
final class TrialEdges {
    private static final int[] NO_KIND = {-2, -1, 6, 7};
    private static final int KINDS = 6;
    private static final Supplier<WordLinks> EMPTY = WordLinks::new;

    private TrialEdges() {
    }

    // ---- promise 32: tell

    static void promise32_pairsAndPlacesThatThereAre() {
        for (boolean is : new boolean[] {true, false}) {
            for (int odd : Edge.ODD) {
                Edge.leavesAll("tell(" + odd + ", 0, 0, " + is + ")", -1, x -> x.tell(odd, 0, 0, is));
                Edge.leavesAll("tell(0, " + odd + ", 0, " + is + ")", -1, x -> x.tell(0, odd, 0, is));
                Edge.leavesAll("tell(0, 0, " + odd + ", " + is + ")", -1, x -> x.tell(0, 0, odd, is));
            }
            for (int pair : new int[] {-1, 3, 24}) {
                Edge.leavesAll("tell(" + pair + ", 0, 0, " + is + ")", -1, x -> x.tell(pair, 0, 0, is));
            }
            for (int place : new int[] {-1, 2, 5, 6, 32}) {
                Edge.leavesAll("tell(0, " + place + ", 0, " + is + ")", -1, x -> x.tell(0, place, 0, is));
                Edge.leavesAll("tell(0, 0, " + place + ", " + is + ")", -1, x -> x.tell(0, 0, place, is));
            }
            Edge.leavesAll(EMPTY, "tell without pairs", -1, x -> x.tell(0, 0, 0, is));
        }
        WordLinks x = Edge.with("a b=x y z");
        Edge.due("the last of both", x.tell(0, 1, 2, true), 1);
        Edge.due("i of side 0", x.tell(0, 2, 1, true), -1);
        Edge.due("j of side 1", x.tell(0, 1, 3, true), -1);
    }

    static void promise32_whatIsSoIsRefused() {
        Edge.leavesAll("told already", -2, x -> x.tell(0, 0, 0, true));
        Edge.leavesAll("not told", -2, x -> x.tell(0, 0, 1, false));
        Edge.leavesAll("told of another pair", -2, x -> x.tell(1, 0, 0, false));
        WordLinks x = Edge.with("a b=x y");
        Edge.due("told", x.tell(0, 0, 1, true), 1);
        Edge.due("told already", x.tell(0, 0, 1, true), -2);
        Edge.due("not the other way round", x.tell(0, 1, 0, false), -2);
        Edge.due("no more", x.tell(0, 0, 1, false), 0);
        Edge.due("no more already", x.tell(0, 0, 1, false), -2);
        Edge.due("told again", x.tell(0, 0, 1, true), 1);
    }

    static void promise32_fromNoneTo36OfAPair() {
        WordLinks x = Edge.with("a b c d e f=u v w x y z;a=x");
        x.tell(1, 0, 0, true);
        int told = 0;
        for (int i = 0; i < 6; i++) {
            for (int j = 0; j < 6; j++) {
                told++;
                Edge.due("told", x.tell(0, i, j, true), told);
            }
        }
        Edge.due("of both pairs", x.count(3), 37);
        Edge.due("all are told", x.tell(0, 5, 5, true), -2);
        for (int i = 0; i < 6; i++) {
            for (int j = 5; j >= 0; j--) {
                told--;
                Edge.due("no more", x.tell(0, i, j, false), told);
            }
        }
        Edge.due("that of the other pair", x.count(3), 1);
    }

    static void promise32_nothingElseChanges() {
        WordLinks x = Edge.scene();
        long fit = x.fit(0, -1) + x.fit(1, -1);
        int linked = x.linked(3, -1);
        Edge.due("told", x.tell(1, 0, 1, true), 1);
        Edge.due("shares", x.fit(0, -1) + x.fit(1, -1), fit);
        Edge.due("links", x.linked(3, -1), linked);
        Edge.due("tape", x.count(2), 20);
        x.rounds(0, 1);
        x.even();
        Edge.due("told links stay", x.count(3), 4);
    }

    // ---- promise 33: agree

    static void promise33_kindsThatThereAre() {
        for (int odd : Edge.ODD) {
            Edge.leavesAll("agree(" + odd + ")", -1, x -> x.agree(odd));
        }
        for (int kind : NO_KIND) {
            Edge.leavesAll("agree(" + kind + ")", -1, x -> x.agree(kind));
        }
        for (int kind = 0; kind < KINDS; kind++) {
            int by = kind;
            Edge.leavesAll("agree(" + kind + ")", Edge.scene().agree(kind), x -> x.agree(by));
        }
    }

    static void promise33_withoutToldLinksItIs0() {
        for (int kind = 0; kind < KINDS; kind++) {
            Edge.due("without pairs", new WordLinks().agree(kind), 0);
            WordLinks x = Edge.onePair(6, 6);
            Edge.due("none told", x.agree(kind), 0);
            x.tell(0, 0, 0, true);
            x.tell(0, 0, 0, false);
            Edge.due("told no more", x.agree(kind), 0);
            x.tell(0, 0, 0, true);
            Edge.due("1 in both, 7 of both", x.agree(kind), 2857);
            x.least(100000);
            Edge.due("told, but none of ours", x.agree(kind), 0);
        }
    }

    static void promise33_from0To10000() {
        WordLinks x = Edge.onePair(2, 2);
        x.tell(0, 0, 1, true);
        Edge.due("none in both", x.agree(2), 0);
        x.tell(0, 0, 0, true);
        Edge.due("2 by 4", x.agree(2), 5000);
        x.tell(0, 1, 1, true);
        Edge.due("4 by 5", x.agree(2), 8000);
        x.tell(0, 0, 1, false);
        Edge.due("all", x.agree(2), 10000);
        x.tell(0, 1, 1, false);
        Edge.due("2 by 3, cut", x.agree(2), 6666);
    }

    static void promise33_ofAllPairs() {
        WordLinks x = Edge.sized(24, 1, 1);
        for (int pair = 0; pair < 24; pair++) {
            x.tell(pair, 0, 0, true);
            Edge.due("all of those told", x.agree(2), 10000);
        }
        Edge.pairs(x, "aa=aa");
        x.drop();
        Edge.due("all of 23", x.agree(2), 10000);
        Edge.pairs(x, "aa aa=aa aa");
        x.tell(23, 0, 1, true);
        Edge.due("23 of 24 and 25", x.agree(2), 9387);
    }

    static void promise33_pairsWithoutToldLinksDontCount() {
        WordLinks x = Edge.with("a b=x y;c=z;d e f=u v w");
        x.tell(0, 0, 0, true);
        x.tell(0, 1, 1, true);
        Edge.due("the first alone", x.agree(0), 10000);
        x.tell(2, 0, 0, true);
        Edge.due("2 and 1 of 4 and 4", x.agree(0), 7500);
        x.tell(2, 0, 0, false);
        Edge.due("the first alone again", x.agree(0), 10000);
    }

    // ---- promise 34: twins

    static void promise34_whatIs0Or10AndWordsBehindIt() {
        for (int odd : Edge.ODD) {
            Edge.leavesAll("twins(" + odd + ")", -1, x -> x.twins(odd));
        }
        for (int what : new int[] {-1, 1, 2, 9, 14, 15, 49, 50}) {
            Edge.leavesAll("twins(" + what + ")", -1, x -> x.twins(what));
        }
        int[] asked = {0, 10, 11, 12, 13};
        for (int what : asked) {
            Edge.leavesAll("twins(" + what + ")", Edge.scene().twins(what), x -> x.twins(what));
        }
        WordLinks x = new WordLinks();
        Edge.due("none of none", x.twins(0), 0);
        Edge.due("no word 0", x.twins(10), -1);
        x = Edge.with("a=x y z");
        Edge.due("word 0", x.twins(10), 0);
        Edge.due("words of side 0 alone", x.twins(11), -1);
    }

    static void promise34_from0To40Twins() {
        WordLinks x = new WordLinks();
        for (int at = 0; at < 40; at += 2) {
            Edge.pairs(x, Edge.row(at, at + 2) + "=" + Edge.row(at, at + 2));
        }
        Edge.due("of two like ones the lowest: twenty", x.twins(0), 20);
        Edge.due("the first of the last pair", x.twins(48), 38);
        Edge.due("the last word", x.twins(49), -2);
        Edge.due("no word 40", x.twins(50), -1);
        x.byLetters(true);
        Edge.due("forty", x.twins(0), 40);
        for (int u = 0; u < 40; u++) {
            Edge.due("the twin of " + u, x.twins(10 + u), u);
        }
    }

    static void promise34_bothMustBeEachOthersFirst() {
        WordLinks x = Edge.with(Edge.BOOKS);
        Edge.due("das and the", x.twins(0), 1);
        Edge.due("das", x.twins(10), 0);
        Edge.leavesAll(() -> Edge.with(Edge.BOOKS), "haus: the is das's", -2, y -> y.twins(11));
        Edge.leavesAll(() -> Edge.with(Edge.BOOKS), "ein: book is das's", -2, y -> y.twins(13));
        // u's first is v, but v has two like ones, of which u is the second
        x = Edge.with("a=x;b=x");
        Edge.due("a", x.twins(10), 0);
        Edge.due("b", x.twins(11), -2);
        // v's first is u, but u has two like ones, of which v is the second
        x = Edge.with("a=x y");
        Edge.due("one", x.twins(0), 1);
        Edge.due("the lower one", x.twins(10), 0);
        // b's first is y and y's first is a; a's first by letters is the second word of side 1
        x = Edge.with("a=x y;b=y");
        Edge.due("a", x.twins(10), 0);
        Edge.due("b", x.twins(11), -2);
        x = Edge.byLetters("a=x a");
        Edge.due("a, though it is x's first, too", x.twins(10), 1);
        // more words of side 0 than of side 1
        x = Edge.byLetters("a b=b");
        Edge.due("b alone", x.twins(0), 1);
        Edge.due("a", x.twins(10), -2);
        Edge.due("b", x.twins(11), 0);
    }

    // ---- promise 35: tried

    static void promise35_nIs1To30AndWhat0To4() {
        for (int odd : Edge.ODD) {
            Edge.leavesAll("tried(" + odd + ", 0)", -1, x -> x.tried(odd, 0));
            Edge.leavesAll("tried(1, " + odd + ")", -1, x -> x.tried(1, odd));
        }
        for (int what = 0; what < 5; what++) {
            int of = what;
            for (int n : new int[] {-1, 0, 31, 32}) {
                Edge.leavesAll("tried(" + n + ", " + what + ")", -1, x -> x.tried(n, of));
            }
            Edge.due("without pairs", new WordLinks().tried(30, what), 0);
        }
        for (int what : new int[] {-1, 5, 6, 10}) {
            Edge.leavesAll("tried(1, " + what + ")", -1, x -> x.tried(1, what));
        }
    }

    private static int shown(WordLinks x, int what) {
        switch (what) {
            case 0: return x.linked(2, -1);
            case 1: return x.linked(3, -1);
            case 2: return x.twins(0);
            case 3: return x.agree(4);
            default: break;
        }
        int full = 0;
        for (int way = 0; way < 2; way++) {
            for (int from = 0; from < x.side(way, 0); from++) {
                full += x.word(way, from, 2) - x.word(way, from, 5);
            }
        }
        return full;
    }

    static void promise35_itTellsWhatRoundsOfBothWaysBringAndNothingStays() {
        for (int n : new int[] {1, 2, 29, 30}) {
            for (int what = 0; what < 5; what++) {
                int of = what;
                WordLinks y = Edge.scene();
                y.rounds(0, n);
                y.rounds(1, n);
                Edge.leavesAll("tried(" + n + ", " + what + ")", shown(y, what), x -> x.tried(n, of));
            }
        }
    }

    private static WordLinks told(String text, int least) {
        WordLinks x = Edge.with(text);
        x.least(least);
        x.tell(0, 0, 0, true);
        x.tell(x.count(0) - 1, 0, 0, true);
        return x;
    }

    /** Behind one round it is so, behind two it is not: so that no more and no fewer rounds are tried. */
    private static void onlyBehindOne(String text, int least, int what, int want) {
        WordLinks x = told(text, least);
        Edge.due("what " + what + " behind one round", x.tried(1, what), want);
        Edge.due("another one behind two", x.tried(2, what) == want, false);
        Edge.due("another one ahead of it", shown(x, what) == want, false);
        x.rounds(0, 1);
        x.rounds(1, 1);
        Edge.due("by rounds that stay", shown(x, what), want);
    }

    static void promise35_justSoManyRoundsAndJustTheseKinds() {
        String links2 = "d e d=e d;d=d";
        String links3 = "b e=d c;d b=c";
        String agree4 = "e e d=a;e=a e";
        onlyBehindOne(links2, 35000, 0, 2);
        onlyBehindOne(links3, 50000, 1, 5);
        onlyBehindOne("d b=d e;e b=e c", 40000, 2, 2);
        onlyBehindOne(agree4, 40000, 3, 5000);
        WordLinks x = told(links2, 35000);
        x.rounds(0, 1);
        x.rounds(1, 1);
        for (int kind : new int[] {0, 1, 3, 4, 5}) {
            Edge.due("kind " + kind + " is not kind 2", x.linked(kind, -1) == 2, false);
        }
        x = told(links3, 50000);
        x.rounds(0, 1);
        x.rounds(1, 1);
        for (int kind : new int[] {0, 1, 2, 4, 5}) {
            Edge.due("kind " + kind + " is not kind 3", x.linked(kind, -1) == 5, false);
        }
        x = told(agree4, 40000);
        x.rounds(0, 1);
        x.rounds(1, 1);
        for (int kind : new int[] {0, 1, 2, 3, 5}) {
            Edge.due("kind " + kind + " is not kind 4", x.agree(kind) == 5000, false);
        }
    }

    static void promise35_sharesNot0OfEachWay() {
        WordLinks x = Edge.with("a=d d e;d=e");
        Edge.due("both ways", x.tried(20, 4), 5);
        x.rounds(0, 20);
        Edge.due("of way 0", x.word(0, 0, 5) + x.word(0, 1, 5), 0);
        x.rounds(1, 20);
        Edge.due("of way 1 one is 0", x.word(1, 0, 5) + x.word(1, 1, 5), 1);
        Edge.due("a round changes none of it", x.tried(1, 4), 5);
        x = Edge.with("a=x;b c=y z;a b=x y");
        x.drop();
        x.drop();
        Edge.due("none of pairs that went", x.tried(1, 4), 2);
    }

    static void promise35_nothingStaysOfNearSharesEither() {
        WordLinks x = Edge.with("a b=x y;a=x;b=y");
        x.placed(true);
        x.rounds(0, 2);
        int near0 = x.near(0, 0);
        int share = x.share(0, 0, 1);
        x.tried(30, 4);
        Edge.due("near", x.near(0, 0), near0);
        Edge.due("near back", x.near(1, 0), 12500);
        Edge.due("share", x.share(0, 0, 1), share);
        Edge.due("share back", x.share(1, 0, 1), 50000);
        x.placed(false);
        Edge.due("shares not 0 behind one round", x.tried(1, 4), 8);
        Edge.due("behind thirty: a's for y, b's for x, and back, are 0", x.tried(30, 4), 4);
    }

    // ---- promise 36: bestRounds

    static void promise36_kindsThatThereAre() {
        for (int odd : Edge.ODD) {
            Edge.leavesAll("bestRounds(" + odd + ")", -1, x -> x.bestRounds(odd));
        }
        for (int kind : NO_KIND) {
            Edge.leavesAll("bestRounds(" + kind + ")", -1, x -> x.bestRounds(kind));
        }
        for (int kind = 0; kind < KINDS; kind++) {
            int by = kind;
            Edge.leavesAll("bestRounds(" + kind + ")", Edge.scene().bestRounds(kind), x -> x.bestRounds(by));
        }
    }

    static void promise36_noneAreTheFewestWhereNoneIsBetter() {
        for (int kind = 0; kind < KINDS; kind++) {
            Edge.due("without pairs", new WordLinks().bestRounds(kind), 0);
            Edge.due("without told links", Edge.with(Edge.BOOKS).bestRounds(kind), 0);
            WordLinks x = Edge.onePair(2, 2);
            x.tell(0, 0, 0, true);
            x.tell(0, 1, 1, true);
            Edge.due("10000 from the first", x.bestRounds(kind), 0);
            x.tell(0, 0, 0, false);
            x.tell(0, 1, 1, false);
            x.tell(0, 0, 1, true);
            Edge.due("0 whatever comes", x.bestRounds(kind), 0);
        }
    }

    /** a's share for x rises with every round; LEAST is what it is behind so many. */
    private static WordLinks rising(int rounds) {
        WordLinks y = Edge.with("a=x;b a=y");
        for (int k = 0; k < rounds; k++) {
            y.rounds(0, 1);
        }
        WordLinks x = Edge.with("a=x;b a=y");
        x.least(y.share(0, 0, 0));
        x.tell(0, 0, 0, true);
        return x;
    }

    static void promise36_from0To30() {
        for (int n : new int[] {0, 1, 2, 15, 29, 30}) {
            Edge.due(n + " rounds", rising(n).bestRounds(0), n);
        }
        Edge.due("the 31st would be better, but is not looked at", rising(31).bestRounds(0), 0);
        WordLinks x = rising(31);
        x.rounds(0, 1);
        Edge.due("one is gone by", x.bestRounds(0), 30);
        Edge.leavesAll(() -> rising(30), "bestRounds", 30, y -> y.bestRounds(0));
    }

    static void promise36_roundsAreOfBothWays() {
        WordLinks y = Edge.with("x=a;y=b a");
        y.rounds(1, 7);
        WordLinks x = Edge.with("x=a;y=b a");
        x.least(y.share(1, 0, 0));
        x.tell(0, 0, 0, true);
        Edge.due("by way 1, too", x.bestRounds(1), 7);
    }

    // ---- promise 37: keep, and 38: undo

    static void promise37_itTellsHowManyPairs() {
        Edge.due("none", new WordLinks().keep(), 0);
        Edge.due("three", Edge.scene().keep(), 3);
        Edge.due("24", Edge.sized(24, 40, 40).keep(), 24);
    }

    static void promise37_nothingChangesButWhatIsKept() {
        WordLinks x = Edge.scene();
        x.keep();
        Edge.due("undo", x.undo(), true);
        WordLinks y = Edge.scene();
        y.keep();
        Edge.due("all", Edge.look(x), Edge.look(y));
        x = Edge.scene();
        x.keep();
        Edge.due("tape", x.count(2), 20);
        Edge.due("tape", x.pairs(20), 4);
        Edge.due("undo", x.undo(), true);
        Edge.due("pairs", x.count(0), 3);
    }

    static void promise37_theLatestKeepCounts() {
        WordLinks x = Edge.with("a=x");
        x.keep();
        Edge.pairs(x, "b=y");
        Edge.due("keep", x.keep(), 2);
        Edge.pairs(x, "c=z");
        x.undo();
        Edge.due("as it was kept last", x.count(0), 2);
        x.drop();
        x.drop();
        Edge.due("keep of none", x.keep(), 0);
        Edge.pairs(x, "d=z");
        x.undo();
        Edge.due("none", x.count(0), 0);
        Edge.due("no words", x.side(0, 0), 0);
    }

    static void promise38_withoutKeepNothingIsUndone() {
        Edge.leavesAll(EMPTY, "undo", 0, x -> x.undo() ? 1 : 0);
        Edge.leavesAll(TrialEdges::unkept, "undo", 0, x -> x.undo() ? 1 : 0);
    }

    private static WordLinks unkept() {
        WordLinks x = Edge.with(Edge.BOOKS);
        Edge.sheets(x, "a|b");
        x.rounds(0, 2);
        x.tell(0, 0, 0, true);
        x.least(5);
        Edge.put(x, "neu haus=new housing");
        return x;
    }

    static void promise38_allButTheTapeIsAsItWasKept() {
        WordLinks x = Edge.scene();
        x.keep();
        int near = x.near(0, 0);
        long fit = x.fit(0, -1);
        Edge.due("of the tape a pair", x.pairs(20), 4);
        x.tell(3, 0, 0, true);
        x.placed(false);
        x.byLetters(false);
        x.least(0);
        Edge.sheets(x, "q|r,s");
        x.tell(0, 0, 0, false);
        Edge.put(x, "zz");
        Edge.due("undo", x.undo(), true);
        Edge.due("the tape stays", x.count(2), 20);
        Edge.due("pairs", x.count(0), 3);
        Edge.due("words", x.side(0, 0), 4);
        Edge.due("least", x.count(1), 20000);
        Edge.due("told links", x.count(3), 3);
        Edge.due("near", x.near(0, 0), near);
        Edge.due("shares", x.fit(0, -1), fit);
        Edge.due("sheets", x.matched(3), 2);
        Edge.due("placed", x.placed(true), false);
        Edge.due("by letters", x.byLetters(true), false);
        Edge.due("told", x.tell(0, 0, 0, true), -2);
    }

    static void promise38_itCanBeUndoneAgainAndAgain() {
        WordLinks x = Edge.scene();
        x.keep();
        for (int k = 0; k < 3; k++) {
            x.drop();
            x.drop();
            x.least(k);
            Edge.due("undo", x.undo(), true);
            Edge.due("pairs", x.count(0), 3);
            Edge.due("least", x.count(1), 20000);
        }
        WordLinks y = Edge.scene();
        y.keep();
        Edge.due("all", Edge.look(x), Edge.look(y));
    }

    static void promise38_whatWasKeptWithoutSheetsOrPairsIsSoAgain() {
        WordLinks x = new WordLinks();
        x.keep();
        Edge.pairs(x, "a=x;b=y");
        Edge.sheets(x, "a|b");
        x.placed(true);
        x.rounds(0, 1);
        Edge.due("undo", x.undo(), true);
        Edge.due("no pairs", x.count(0), 0);
        Edge.due("no words", x.side(1, 0), 0);
        Edge.due("no sheets", x.joins(), -2);
        Edge.due("near", x.near(0, 0), 12500);
        Edge.due("not placed", x.placed(false), false);
        Edge.due("no pair to drop", x.drop(), -1);
    }

    static void promise38_wordsAndPlacesAreAsTheyWereKept() {
        WordLinks x = Edge.with("a bc=x;d=yz a");
        x.keep();
        x.drop();
        x.drop();
        Edge.pairs(x, "m=n o p q r s;t u v=w");
        Edge.due("other words", Edge.find(x, 0, "m"), 0);
        Edge.due("undo", x.undo(), true);
        Edge.due("a", Edge.find(x, 0, "a"), 0);
        Edge.due("bc", Edge.find(x, 0, "bc"), 1);
        Edge.due("d", Edge.find(x, 0, "d"), 2);
        Edge.due("no m", Edge.find(x, 0, "m"), -2);
        Edge.due("yz", Edge.find(x, 1, "yz"), 1);
        Edge.due("places of side 0", x.side(0, 1), 3);
        Edge.due("places of side 1", x.side(1, 1), 3);
        int[][] words = {{0, 1, -2}, {0, -2, -2}, {2, -2, -2}, {1, 2, -2}};
        for (int k = 0; k < 12; k++) {
            Edge.due("place " + k % 3 + " of " + k / 3, x.at(k / 6, k / 3 % 2, k % 3), words[k / 3][k % 3]);
        }
        Edge.due("partners of d", x.word(0, 2, 2), 2);
        Edge.due("no partner", x.share(0, 0, 1), -2);
        Edge.due("no partner, back", x.share(1, 1, 0), -2);
    }

    static void promise38_aFullStateIsKeptToo() {
        WordLinks x = Edge.sized(24, 40, 40);
        x.tell(23, 0, 0, true);
        x.keep();
        for (int k = 0; k < 24; k++) {
            x.drop();
        }
        Edge.pairs(x, Edge.times("zy zz=zy zz", 12, ";"));
        Edge.due("others", Edge.pairs(x, Edge.times("zz zy=zz zy", 12, ";")), 24);
        x.undo();
        Edge.due("pairs", x.count(0), 24);
        Edge.due("words", x.side(0, 0), 40);
        for (int word = 0; word < 40; word++) {
            Edge.due("place of word " + word, x.at(word / 6, 0, word % 6), word);
            Edge.due("place of word " + word, x.at(word / 6, 1, word % 6), word);
        }
        for (int pair = 7; pair < 24; pair++) {
            Edge.due("word of pair " + pair, x.at(pair, 0, 0), 0);
            Edge.due("no second one", x.at(pair, 1, 1), -2);
        }
        Edge.due("word 39", x.word(1, 39, 11), Edge.named(39).charAt(1));
        Edge.due("told", x.tell(23, 0, 0, true), -2);
        Edge.due("a 25th pair", Edge.pairs(x, "aa=aa"), -3);
    }

    // ---- promise 39: check

    static void promise39_nIs0To6() {
        for (int n : new int[] {-6, -1, 7, 8, 20, 21}) {
            Edge.leavesAll("check(" + n + ")", -2, x -> x.check(n));
        }
        for (int odd : Edge.ODD) {
            Edge.leavesAll("check(" + odd + ")", -2, x -> x.check(odd));
        }
        for (int n = 1; n <= 6; n++) {
            int bytes = n;
            Edge.leavesAll(EMPTY, "check(" + n + ") with an empty tape", -2, x -> x.check(bytes));
        }
        Edge.leavesAllButTape("abc", "check(0)", -1, x -> x.check(0));
        Edge.leavesAll(EMPTY, "check(0) with an empty tape", -1, x -> x.check(0));
        WordLinks x = Edge.onePair(6, 6);
        Edge.due("six", Edge.check(x, 0, 1, 2, 3, 4, 5), -1);
        Edge.due("the tape is empty", x.count(2), 0);
        Edge.put(x, "" + (char) 0 + (char) 1 + (char) 2 + (char) 3 + (char) 4 + (char) 5 + (char) 6);
        Edge.due("seven", x.check(7), -2);
        Edge.due("the tape stays", x.count(2), 20);
        Edge.due("six of them", x.check(6), -1);
    }

    static void promise39_theFirstThatIsNotSo() {
        WordLinks x = Edge.onePair(6, 6);
        for (int at = 0; at < 6; at++) {
            int[] places = {0, 1, 2, 3, 4, 5};
            places[at] = 5 - at;
            Edge.due("wrong at " + at, Edge.check(x, places), at);
            places[at] = 255;
            Edge.due("none at " + at, Edge.check(x, places), at);
            places[at] = 6;
            Edge.due("no such place at " + at, Edge.check(x, places), at);
            places[at] = at + 128;
            Edge.due("128 more at " + at, Edge.check(x, places), at);
        }
        Edge.due("two are wrong", Edge.check(x, 0, 1, 5, 5, 4, 5), 2);
        Edge.leavesAllButTape("" + (char) 7, "check", 0, y -> y.check(1));
    }

    static void promise39_noneIs255() {
        WordLinks x = Edge.onePair(6, 6);
        x.least(100000);
        Edge.due("none linked", Edge.check(x, 255, 255, 255, 255, 255, 255), -1);
        Edge.due("254", Edge.check(x, 255, 254), 1);
        Edge.due("0", Edge.check(x, 255, 255, 0), 2);
        x = Edge.with("a b=x y;c=z z");
        x.least(50001);
        Edge.due("none", Edge.check(x, 255, 255), -1);
        x.least(50000);
        Edge.due("linked", Edge.check(x, 0, 1), -1);
        Edge.due("not none", Edge.check(x, 255, 1), 0);
    }

    static void promise39_behindTheSentencesEndNothingIsRight() {
        WordLinks x = Edge.with("a b c=x y;d=z z z z z z");
        for (int told : new int[] {0, 1, 2, 255}) {
            Edge.due("behind two", Edge.check(x, 0, 1, told), 2);
        }
        Edge.due("up to the end", Edge.check(x, 0, 1), -1);
        Edge.due("a wrong one ahead of the end", Edge.check(x, 0, 0, 255), 1);
        x = Edge.with("a b c d e f=x");
        Edge.due("one word", Edge.check(x, 0), -1);
        Edge.due("behind one", Edge.check(x, 0, 1), 1);
    }

    static void promise39_withoutPairsNothingIsRight() {
        for (int told : new int[] {0, 1, 255}) {
            Edge.due("the first", Edge.check(new WordLinks(), told), 0);
        }
        WordLinks x = Edge.with("a=x");
        x.drop();
        Edge.due("none any more", Edge.check(x, 0), 0);
        Edge.due("no bytes", x.check(0), -1);
    }

    static void promise39_itIsOfPair0AndKind0() {
        WordLinks x = Edge.with("a a a a=x x;a=x");
        Edge.due("kind 0", Edge.check(x, 0, 2), -1);
        Edge.due("kind 1 has more, but not by j", Edge.check(x, 0, 3), 1);
        x = Edge.byLetters("a b=b a;a b=a b");
        Edge.due("pair 0", Edge.check(x, 1, 0), -1);
        Edge.due("not pair 1", Edge.check(x, 0, 1), 0);
    }

    // ---- promise 40: count

    static void promise40_whatIs0To3() {
        for (int what : new int[] {-2, -1, 4, 5}) {
            Edge.leavesAll("count(" + what + ")", -1, x -> x.count(what));
        }
        for (int odd : Edge.ODD) {
            Edge.leavesAll("count(" + odd + ")", -1, x -> x.count(odd));
        }
        Edge.leavesAll("pairs", 3, x -> x.count(0));
        Edge.leavesAll("least", 20000, x -> x.count(1));
        Edge.leavesAll("bytes", 20, x -> x.count(2));
        Edge.leavesAll("told links", 3, x -> x.count(3));
    }

    static void promise40_fromNoneToAll() {
        WordLinks x = new WordLinks();
        for (int what = 0; what < 4; what++) {
            Edge.due("none", x.count(what), 0);
        }
        x = Edge.sized(24, 1, 1);
        x.least(100000);
        Edge.put(x, Edge.times("a", 240, ""));
        for (int pair = 0; pair < 24; pair++) {
            x.tell(pair, 0, 0, true);
        }
        Edge.due("pairs", x.count(0), 24);
        Edge.due("least", x.count(1), 100000);
        Edge.due("bytes", x.count(2), 240);
        Edge.due("told links", x.count(3), 24);
    }
}

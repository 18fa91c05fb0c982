/** Edges of promises 8 to 14: rounds, shares begun, by letters, placed, near shares, likeness, least. */
final class RoundEdges {
    private static final int[] NO_WAY = {-2, -1, 2, 3};

    private RoundEdges() {
    }

    private static int rounded(WordLinks x, int way, int n, int times) {
        int last = 0;
        for (int k = 0; k < times; k++) {
            last = x.rounds(way, n);
        }
        return last;
    }

    // ---- promise 8: rounds

    static void promise08_nIs1To30() {
        for (int n : new int[] {-30, -1, 0, 31, 32}) {
            Edge.leavesAll("rounds(0, " + n + ")", -1, x -> x.rounds(0, n));
            Edge.leavesAll("rounds(1, " + n + ")", -1, x -> x.rounds(1, n));
        }
        for (int n : Edge.ODD) {
            Edge.leavesAll("rounds(0, " + n + ")", -1, x -> x.rounds(0, n));
        }
        WordLinks x = Edge.with(Edge.BOOKS);
        Edge.due("one round", x.rounds(0, 1), 6);
        Edge.due("thirty rounds", x.rounds(0, 30) > 0, true);
    }

    static void promise08_waysAre0And1() {
        for (int way : NO_WAY) {
            Edge.leavesAll("rounds(" + way + ", 1)", -1, x -> x.rounds(way, 1));
        }
        for (int way : Edge.ODD) {
            Edge.leavesAll("rounds(" + way + ", 1)", -1, x -> x.rounds(way, 1));
        }
    }

    static void promise08_manyRoundsAreAsManyTimesOne() {
        for (int way = 0; way < 2; way++) {
            for (int n : new int[] {2, 29, 30}) {
                WordLinks x = Edge.scene();
                WordLinks y = Edge.scene();
                x.rounds(way, n);
                rounded(y, way, 1, n);
                for (int from = 0; from < 4; from++) {
                    for (int to = 0; to < 4; to++) {
                        Edge.due("share behind " + n, x.share(way, from, to), y.share(way, from, to));
                        Edge.due("share of the other way", x.share(1 - way, from, to), y.share(1 - way, from, to));
                    }
                }
                for (int k = 0; k < 8; k++) {
                    Edge.due("near behind " + n, x.near(way, k), y.near(way, k));
                }
            }
        }
    }

    static void promise08_sharesThatAreOthersAreCounted() {
        WordLinks x = new WordLinks();
        Edge.due("without pairs", x.rounds(0, 30), 0);
        x = Edge.with("a=x");
        Edge.due("one share alone", x.rounds(0, 30), 0);
        x = Edge.with("a b=x y");
        Edge.due("even shares stay", x.rounds(0, 30), 0);
        x = Edge.with("a b=x y;a=x");
        Edge.due("two of four", x.rounds(0, 1), 2);
        Edge.due("the way back is not told", x.even(), 2);
        Edge.due("two of four, back", x.rounds(1, 1), 2);
        Edge.due("all four in two rounds", x.rounds(0, 2), 4);
    }

    static void promise08_theOtherWayStays() {
        WordLinks x = Edge.with("a b=x y;a=x");
        x.placed(true);
        x.rounds(0, 5);
        Edge.due("share", x.share(1, 0, 0), 50000);
        Edge.due("share", x.share(1, 1, 0), 50000);
        Edge.due("near", x.near(1, 0), 12500);
        Edge.due("its own", x.share(0, 0, 0) == 50000, false);
        Edge.due("its own near", x.near(0, 0) == 12500, false);
    }

    static void promise08_whatIsLeftGoesToTheGreatestRests() {
        WordLinks x = Edge.with("a b=x y;a=x");
        x.rounds(0, 1);
        Edge.due("150000 of 200000", x.share(0, 0, 0), 75000);
        x.rounds(0, 1);
        Edge.due("160000 of 193333: 82758 and the greater rest", x.share(0, 0, 0), 82759);
        Edge.due("33333 of 193333: 17241", x.share(0, 0, 1), 17241);
        Edge.due("40000 of 106667: 37499 and the greater rest", x.share(0, 1, 0), 37500);
        Edge.due("66667 of 106667: 62500", x.share(0, 1, 1), 62500);
        x = Edge.with("a=x y z");
        x.rounds(0, 1);
        Edge.due("of like rests the first", x.share(0, 0, 0), 33334);
        Edge.due("then none", x.share(0, 0, 1), 33333);
        Edge.due("then none", x.share(0, 0, 2), 33333);
    }

    static void promise08_nothingIsLeftOver() {
        WordLinks x = Edge.scene();
        for (int n = 1; n <= 3; n++) {
            x.rounds(0, n);
            x.rounds(1, n);
            for (int way = 0; way < 2; way++) {
                for (int from = 0; from < 4; from++) {
                    int all = 0;
                    for (int to = 0; to < 4; to++) {
                        all += Math.max(x.share(way, from, to), 0);
                    }
                    Edge.due("all shares of a word", all, 100000);
                }
                int all = 0;
                for (int k = 0; k < 8; k++) {
                    all += x.near(way, k);
                }
                Edge.due("all near shares", all, 100000);
            }
        }
    }

    /** b stands second of two alone: what it gets by places becomes less from round to round, till nothing is left. */
    private static WordLinks fading() {
        WordLinks x = Edge.with("a b=x;a b=y;a=x;" + Edge.times("c=z", 6, ";"));
        x.placed(true);
        return x;
    }

    static void promise08_countsThatAreAll0CountAs1Each() {
        WordLinks x = fading();
        x.rounds(0, 4);
        Edge.due("more of y than of x by now", x.share(0, 1, 1) > x.share(0, 1, 0), true);
        rounded(x, 0, 30, 3);
        Edge.due("near 4", x.near(0, 4), 0);
        Edge.due("b for x", x.counted(0, 1, 0), 0);
        Edge.due("b for y", x.counted(0, 1, 1), 0);
        Edge.due("b's share for x", x.share(0, 1, 0), 50000);
        Edge.due("b's share for y", x.share(0, 1, 1), 50000);
        Edge.due("a has all of x, x and y", x.share(0, 0, 0), 66667);
    }

    static void promise08_nearSharesWithoutPairsAreEven() {
        WordLinks x = new WordLinks();
        x.placed(true);
        Edge.due("rounds", x.rounds(0, 30), 0);
        for (int k = 0; k < 8; k++) {
            Edge.due("near", x.near(0, k), 12500);
        }
    }

    static void promise08_nearSharesChangeOnlyIfPlaced() {
        WordLinks x = Edge.with("a b=x y;a=x");
        x.rounds(0, 30);
        Edge.due("not placed", x.near(0, 0), 12500);
        x.placed(true);
        x.rounds(0, 1);
        Edge.due("placed", x.near(0, 0) > 12500, true);
        Edge.due("none is so far", x.near(0, 7), 0);
    }

    static void promise08_tapeSheetsToldLinksAndLeastStay() {
        WordLinks x = Edge.scene();
        x.rounds(0, 3);
        Edge.due("tape", x.count(2), 20);
        Edge.due("sheets", x.matched(1), 2);
        Edge.due("told links", x.count(3), 3);
        Edge.due("least", x.count(1), 20000);
        Edge.due("pairs", x.count(0), 3);
    }

    // ---- promise 9: even

    static void promise09_nothingWasOther() {
        Edge.due("without pairs", new WordLinks().even(), 0);
        Edge.due("begun just now", Edge.with(Edge.BOOKS).even(), 0);
        WordLinks x = Edge.with(Edge.BOOKS);
        x.rounds(0, 1);
        Edge.due("six were others", x.even(), 6);
        Edge.due("none any more", x.even(), 0);
    }

    static void promise09_sharesOfBothWaysAreCounted() {
        WordLinks x = Edge.with("a b=x y;a=x");
        x.rounds(1, 1);
        Edge.due("of way 1", x.even(), 2);
        x.rounds(0, 1);
        x.rounds(1, 1);
        Edge.due("of both", x.even(), 4);
        for (int way = 0; way < 2; way++) {
            for (int from = 0; from < 2; from++) {
                Edge.due("even", x.share(way, from, 0), 50000);
            }
        }
    }

    static void promise09_nearSharesAreBegunButNotCounted() {
        WordLinks x = Edge.with("a=u v w x y z");
        x.placed(true);
        Edge.due("no share is other", x.rounds(0, 1), 0);
        Edge.due("near shares are", x.near(0, 0), 16667);
        Edge.due("even", x.even(), 0);
        for (int k = 0; k < 8; k++) {
            Edge.due("near of way 0", x.near(0, k), 12500);
            Edge.due("near of way 1", x.near(1, k), 12500);
        }
        x.rounds(1, 1);
        Edge.due("near shares back", x.near(1, 0) == 12500, false);
        x.even();
        Edge.due("near of way 1", x.near(1, 0), 12500);
        Edge.due("placed stays", x.placed(true), false);
    }

    static void promise09_byLettersStays() {
        WordLinks x = Edge.byLetters("abc=abc d");
        x.rounds(0, 1);
        Edge.due("even shares by a round", x.share(0, 0, 0), 50000);
        Edge.due("both were others", x.even(), 2);
        Edge.due("10 to 1", x.share(0, 0, 0), 90909);
        Edge.due("by letters", x.byLetters(true), false);
    }

    // ---- promise 10: byLetters

    static void promise10_whatIsSoIsRefused() {
        Edge.leavesAll("byLetters(true)", 0, x -> x.byLetters(true) ? 1 : 0);
        Edge.leavesAll(RoundEdges::rounded, "byLetters(false)", 0, x -> x.byLetters(false) ? 1 : 0);
        Edge.leavesAll(WordLinks::new, "byLetters(false)", 0, x -> x.byLetters(false) ? 1 : 0);
    }

    /** Not by letters, not placed, behind rounds: so shares that are begun would tell. */
    private static WordLinks rounded() {
        WordLinks x = Edge.with(Edge.BOOKS);
        x.rounds(0, 2);
        x.rounds(1, 2);
        return x;
    }

    static void promise10_sharesAreBegunByLetters() {
        WordLinks x = rounded();
        Edge.due("by letters", x.byLetters(true), true);
        Edge.due("das, the: 1 of 6", x.share(0, 0, 0), 16667);
        Edge.due("das, house: 4 of 6", x.share(0, 0, 1), 66667);
        Edge.due("das, book: 1 of 6", x.share(0, 0, 2), 16666);
        Edge.due("house, das: 4 of 14", x.share(1, 1, 0), 28571);
        Edge.due("house, haus: 10 of 14", x.share(1, 1, 1), 71429);
        x.rounds(0, 2);
        Edge.due("no more", x.byLetters(false), true);
        Edge.due("even", x.share(0, 0, 0), 33334);
        Edge.due("even", x.share(1, 1, 0), 50000);
        Edge.due("nothing was other", x.even(), 0);
    }

    static void promise10_weightsAreFrom1To22() {
        WordLinks x = Edge.byLetters("abcdefg=abcdefg hijklmn");
        Edge.due("22 of 23", x.share(0, 0, 0), 95652);
        Edge.due("1 of 23", x.share(0, 0, 1), 4348);
        x = Edge.byLetters("abcdefg=hijklmn opqrstu");
        Edge.due("1 of 2", x.share(0, 0, 0), 50000);
        x = Edge.byLetters("a=a b");
        Edge.due("4 of 5", x.share(0, 0, 0), 80000);
    }

    static void promise10_nearSharesAreBegunToo() {
        WordLinks x = Edge.with("a b=x y;a=x");
        x.placed(true);
        x.rounds(0, 1);
        x.rounds(1, 1);
        x.byLetters(true);
        Edge.due("near", x.near(0, 0), 12500);
        Edge.due("near", x.near(1, 0), 12500);
        Edge.due("placed stays", x.placed(true), false);
    }

    static void promise10_itHoldsForPairsThatCome() {
        WordLinks x = new WordLinks();
        Edge.due("without pairs", x.byLetters(true), true);
        Edge.pairs(x, "a=a b");
        Edge.due("by letters", x.share(0, 0, 0), 80000);
        Edge.due("still so", x.byLetters(true), false);
    }

    // ---- promise 11: placed

    static void promise11_whatIsSoIsRefused() {
        Edge.leavesAll("placed(true)", 0, x -> x.placed(true) ? 1 : 0);
        Edge.leavesAll(RoundEdges::rounded, "placed(false)", 0, x -> x.placed(false) ? 1 : 0);
        Edge.leavesAll(WordLinks::new, "placed(false)", 0, x -> x.placed(false) ? 1 : 0);
    }

    static void promise11_sharesAndNearSharesStay() {
        WordLinks x = Edge.with("a b=x y;a=x");
        x.rounds(0, 1);
        Edge.due("placed", x.placed(true), true);
        Edge.due("share", x.share(0, 0, 0), 75000);
        Edge.due("near", x.near(0, 4), 12500);
        x.rounds(0, 1);
        int share = x.share(0, 0, 0);
        int near = x.near(0, 0);
        Edge.due("near is another one", near == 12500, false);
        Edge.due("not placed", x.placed(false), true);
        Edge.due("share", x.share(0, 0, 0), share);
        Edge.due("near", x.near(0, 0), near);
        Edge.due("not so any more", x.placed(false), false);
    }

    static void promise11_worthIsByPlacesOrNot() {
        WordLinks x = fading();
        rounded(x, 0, 30, 3);
        Edge.due("placed: nothing for b", x.part(0, 0, 1, 0), 0);
        x.placed(false);
        Edge.due("not placed: 50000 to 66667", x.part(0, 0, 1, 0), 42857);
        x.placed(true);
        Edge.due("placed again", x.part(0, 0, 1, 0), 0);
    }

    // ---- promise 12: near

    static void promise12_kIs0To7AndWays0And1() {
        for (int k : new int[] {-2, -1, 8, 9}) {
            Edge.leavesAll("near(0, " + k + ")", -1, x -> x.near(0, k));
            Edge.leavesAll("near(1, " + k + ")", -1, x -> x.near(1, k));
        }
        for (int odd : Edge.ODD) {
            Edge.leavesAll("near(0, " + odd + ")", -1, x -> x.near(0, odd));
            Edge.leavesAll("near(" + odd + ", 0)", -1, x -> x.near(odd, 0));
        }
        for (int way : NO_WAY) {
            Edge.leavesAll("near(" + way + ", 0)", -1, x -> x.near(way, 0));
        }
        for (int k = 0; k < 8; k++) {
            Edge.due("near", new WordLinks().near(0, k), 12500);
            Edge.due("near", new WordLinks().near(1, k), 12500);
        }
    }

    private static void nears(String text, int way, int... want) {
        WordLinks x = Edge.with(text);
        x.placed(true);
        x.rounds(way, 1);
        for (int k = 0; k < 8; k++) {
            Edge.due("near " + k + " by way " + way + " of " + text, x.near(way, k), want[k]);
            Edge.due("near " + k + " of the other way", x.near(1 - way, k), 12500);
        }
    }

    static void promise12_nearnessIsCut() {
        // the size of i m - j l, times 8, by l m: here 8 i / 6 and 8 j / 6
        nears("a b c d e f=x", 0, 16667, 16667, 16667, 0, 16667, 16666, 16666, 0);
        nears("a=u v w x y z", 0, 16667, 16667, 16667, 0, 16667, 16666, 16666, 0);
        nears("a b c d e f=x", 1, 16667, 16667, 16667, 0, 16667, 16666, 16666, 0);
        nears("a b=x y", 0, 50000, 0, 0, 0, 50000, 0, 0, 0);
        nears("a=x", 0, 100000, 0, 0, 0, 0, 0, 0, 0);
    }

    static void promise12_sixBySixPlacesAreOfNearness6AtMost() {
        // six diagonals: of 36 places 6, 10, 8, 6, 4, 2 of nearness 0, 1, 2, 4, 5, 6
        nears("a b c d e f=u v w x y z", 0, 16667, 27778, 22222, 0, 16667, 11111, 5555, 0);
        nears("a b c d e f=u v w x y z", 1, 16667, 27778, 22222, 0, 16667, 11111, 5555, 0);
    }

    static void promise12_theyAre12500WheneverSharesAreBegun() {
        for (int how = 0; how < 5; how++) {
            WordLinks x = Edge.with("a b=x y;a=x");
            Edge.sheets(x, "a|x");
            x.placed(true);
            x.rounds(0, 1);
            x.rounds(1, 1);
            Edge.due("others", x.near(0, 0) != 12500 && x.near(1, 0) != 12500, true);
            switch (how) {
                case 0: x.even(); break;
                case 1: x.drop(); break;
                case 2: x.joins(); break;
                case 3: x.byLetters(true); break;
                default: Edge.pairs(x, "a=x"); break;
            }
            for (int k = 0; k < 8; k++) {
                Edge.due("near by " + how, x.near(0, k), 12500);
                Edge.due("near by " + how, x.near(1, k), 12500);
            }
        }
    }

    // ---- promise 13: likeness

    static void promise13_wordsFrom0ToTheLast() {
        for (int odd : Edge.ODD) {
            Edge.leavesAll("likeness(" + odd + ", 0)", -1, x -> x.likeness(odd, 0));
            Edge.leavesAll("likeness(0, " + odd + ")", -1, x -> x.likeness(0, odd));
        }
        for (int word : new int[] {-1, 4, 5, 40}) {
            Edge.leavesAll("likeness(" + word + ", 0)", -1, x -> x.likeness(word, 0));
            Edge.leavesAll("likeness(0, " + word + ")", -1, x -> x.likeness(0, word));
        }
        Edge.leavesAll("likeness of buch and book", 1, x -> x.likeness(2, 2));
        Edge.leavesAll("likeness of the last ones, ein and a", 0, x -> x.likeness(3, 3));
        Edge.due("without words", new WordLinks().likeness(0, 0), -1);
        WordLinks x = Edge.sized(0, 40, 40);
        Edge.due("the fortieth words", x.likeness(39, 39), 2);
        Edge.due("no 41st", x.likeness(40, 39), -1);
        Edge.due("no 41st", x.likeness(39, 40), -1);
        x = Edge.with("a=a b c");
        Edge.due("words of each side by its own number", x.likeness(0, 2), 0);
        Edge.due("no word 1 of side 0", x.likeness(1, 0), -1);
        x.drop();
        Edge.due("a word that went", x.likeness(0, 0), -1);
    }

    private static void likeness(String one, String other, int want) {
        Edge.due(one + ", " + other, Edge.with(one + "=" + other).likeness(0, 0), want);
        Edge.due(other + ", " + one, Edge.with(other + "=" + one).likeness(0, 0), want);
    }

    static void promise13_from0To7LettersInOrder() {
        likeness("a", "b", 0);
        likeness("a", "a", 1);
        likeness("z", "z", 1);
        likeness("abcdefg", "abcdefg", 7);
        likeness("aaaaaaa", "aaaaaaa", 7);
        likeness("abcdefg", "gfedcba", 1);
        likeness("abcdefg", "hijklmn", 0);
        likeness("abcdefg", "g", 1);
        likeness("abcdefg", "aceg", 4);
        likeness("abcdefg", "bcdefga", 6);
        likeness("aaa", "a", 1);
        likeness("aab", "baa", 2);
        likeness("zazaza", "azazaz", 5);
        likeness("banane", "ananas", 4);
        likeness("abcbdab", "bdcaba", 4);
    }

    // ---- promise 14: least

    static void promise14_leastIs0To100000() {
        for (int v : new int[] {-1, 100001}) {
            Edge.leavesAll("least(" + v + ")", -1, x -> x.least(v));
        }
        for (int v : Edge.ODD) {
            if (v < 0 || v > 100000) {
                Edge.leavesAll("least(" + v + ")", -1, x -> x.least(v));
            }
        }
        WordLinks x = new WordLinks();
        Edge.due("it was 0", x.least(100000), 0);
        Edge.due("it was 100000", x.least(0), 100000);
        Edge.due("it was 0", x.least(99999), 0);
        Edge.due("it was 99999", x.least(1), 99999);
        Edge.due("refused", x.least(-1), -1);
        Edge.due("refused", x.least(100001), -1);
        Edge.due("it was 1", x.least(1), 1);
        Edge.due("it is 1", x.count(1), 1);
    }

    static void promise14_aShareOfLeastIsNotBelowIt() {
        WordLinks x = Edge.with("a=x;b=y z");
        x.least(100000);
        Edge.due("100000 is not below 100000", x.linked(0, 0), 1);
        Edge.due("100000 is not below 100000, back", x.linked(1, 0), 1);
        Edge.due("50000 is below", x.linked(0, 1), 0);
        x.least(50001);
        Edge.due("50000 is below 50001", x.linked(0, 1), 0);
        x.least(50000);
        Edge.due("50000 is not below 50000", x.linked(0, 1), 2);
    }

    /** Places of nearness 4 have the near share 0, and the place of nearness 0 of x the share 0: all worth is 0. */
    static WordLinks worthless() {
        WordLinks x = Edge.with("b a=x y;a=x;b=y;" + Edge.times("c=z", 8, ";"));
        x.placed(true);
        rounded(x, 0, 30, 3);
        x.placed(false);
        rounded(x, 0, 30, 3);
        x.placed(true);
        return x;
    }

    static void promise14_aShareOf0IsNotBelowLeastOf0() {
        WordLinks x = worthless();
        Edge.due("near 4", x.near(0, 4), 0);
        Edge.due("b's share for x", x.share(0, 0, 0), 0);
        Edge.due("linked all the same, the nearest places", x.links(0, 0, 0), 1);
        x.least(1);
        Edge.due("0 is below 1", x.links(0, 0, 0), 0);
    }

    static void promise14_nothingElseChanges() {
        WordLinks x = Edge.scene();
        long fit = x.fit(0, -1) + x.fit(1, -1);
        Edge.due("least", x.least(3), 20000);
        Edge.due("shares", x.fit(0, -1) + x.fit(1, -1), fit);
        Edge.due("told links", x.count(3), 3);
        Edge.due("tape", x.count(2), 20);
    }
}

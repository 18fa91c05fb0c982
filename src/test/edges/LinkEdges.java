import java.util.function.Supplier;

/** Edges of promises 24 to 31: links by kinds, boxes, cuts, partings, phrases, what is put over. */
final class LinkEdges {
    private static final int[] NO_KIND = {-2, -1, 6, 7};
    private static final int[] NO_PAIR = {-2, 3, 4, 24};
    private static final int KINDS = 6;

    private LinkEdges() {
    }

    private static WordLinks leastOf(int least, WordLinks x) {
        x.least(least);
        return x;
    }

    // ---- promise 24: links

    static void promise24_kindsPairsAndPlacesThatThereAre() {
        for (int odd : Edge.ODD) {
            Edge.leavesAll("links(" + odd + ", 0, 0)", -1, x -> x.links(odd, 0, 0));
            Edge.leavesAll("links(0, " + odd + ", 0)", -1, x -> x.links(0, odd, 0));
            Edge.leavesAll("links(0, 0, " + odd + ")", -1, x -> x.links(0, 0, odd));
        }
        for (int kind : NO_KIND) {
            Edge.leavesAll("links(" + kind + ", 0, 0)", -1, x -> x.links(kind, 0, 0));
        }
        for (int kind = 0; kind < KINDS; kind++) {
            int by = kind;
            for (int pair : new int[] {-1, 3, 24}) {
                Edge.leavesAll("links(" + kind + ", " + pair + ", 0)", -1, x -> x.links(by, pair, 0));
            }
            for (int place : new int[] {-1, 2, 3, 6}) {
                Edge.leavesAll("links(" + kind + ", 0, " + place + ")", -1, x -> x.links(by, 0, place));
            }
        }
        WordLinks x = Edge.with("a=x y z;a b c d e f=x");
        Edge.due("places of side 0 alone", x.links(0, 0, 0), 7);
        Edge.due("not of side 1", x.links(0, 0, 1), -1);
        Edge.due("the sixth place", x.links(1, 1, 5), 1);
        Edge.due("no seventh", x.links(1, 1, 6), -1);
        Edge.due("no pairs", new WordLinks().links(0, 0, 0), -1);
    }

    static void promise24_askingChangesNothing() {
        for (int kind = 0; kind < KINDS; kind++) {
            int by = kind;
            Edge.leavesAll("links of kind " + kind, Edge.scene().links(kind, 0, 0), x -> x.links(by, 0, 0));
        }
    }

    static void promise24_bitsOfSixPlaces() {
        WordLinks x = Edge.onePair(1, 6);
        Edge.due("all of side 1 go to one", x.links(0, 0, 0), 63);
        Edge.due("it goes to the first", x.links(1, 0, 0), 1);
        Edge.due("both", x.links(2, 0, 0), 1);
        Edge.due("one or both", x.links(3, 0, 0), 63);
        Edge.due("grown", x.links(4, 0, 0), 63);
        x = Edge.onePair(6, 1);
        Edge.due("it goes to the first", Edge.links(x, 0, 0, 6), "(0,0)");
        Edge.due("all of side 0 go to one", Edge.links(x, 1, 0, 6), "(0,0)(1,0)(2,0)(3,0)(4,0)(5,0)");
        Edge.due("both", Edge.links(x, 2, 0, 6), "(0,0)");
        Edge.due("grown to the last place", Edge.links(x, 4, 0, 6), "(0,0)(1,0)(2,0)(3,0)(4,0)(5,0)");
        x = Edge.onePair(6, 6);
        for (int kind = 0; kind < KINDS; kind++) {
            Edge.due("kind " + kind, Edge.links(x, kind, 0, 6), "(0,0)(1,1)(2,2)(3,3)(4,4)(5,5)");
        }
        x = Edge.onePair(1, 1);
        for (int kind = 0; kind < KINDS; kind++) {
            Edge.due("kind " + kind + " of one place", x.links(kind, 0, 0), 1);
        }
    }

    static void promise24_ofLikeWorthTheNearestThenTheLeast() {
        WordLinks x = Edge.with("a a a a=x x");
        Edge.due("i 2 - j 4 is 0", Edge.links(x, 0, 0, 4), "(0,0)(2,1)");
        Edge.due("i 1 is as near to j 0 as to j 1", Edge.links(x, 1, 0, 4), "(0,0)(1,0)(2,1)(3,1)");
        x = Edge.with("a a=x x x x");
        Edge.due("j 1 is as near to i 0 as to i 1", Edge.links(x, 0, 0, 2), "(0,0)(0,1)(1,2)(1,3)");
        Edge.due("i 4 - j 2 is 0", Edge.links(x, 1, 0, 2), "(0,0)(1,2)");
        x = Edge.with("a a=x x x");
        Edge.due("j 1: 2 from i 0, 1 from i 1", Edge.links(x, 0, 0, 2), "(0,0)(1,1)(1,2)");
        Edge.due("i 1: 1 from j 1, 1 from j 2", Edge.links(x, 1, 0, 2), "(0,0)(1,1)");
    }

    static void promise24_aGreaterWorthGoesAheadOfTheNearest() {
        WordLinks x = Edge.byLetters("a b c d e f=f e d c b a");
        for (int kind = 0; kind < KINDS; kind++) {
            Edge.due("kind " + kind, Edge.links(x, kind, 0, 6), "(0,5)(1,4)(2,3)(3,2)(4,1)(5,0)");
        }
        // x is the first of a's three partners and the second of b's, so a has one more of it, what was left
        x = Edge.with("b=m;b a=x n;a=k");
        Edge.due("b's share for x", x.share(0, 0, 1), 33333);
        Edge.due("a's share for x", x.share(0, 1, 1), 33334);
        Edge.due("x by the share, n by the place", Edge.links(x, 0, 1, 2), "(1,0)(1,1)");
    }

    static void promise24_aShareBelowLeastIsNoLink() {
        WordLinks x = Edge.onePair(2, 2);
        x.least(50000);
        for (int kind = 0; kind < KINDS; kind++) {
            Edge.due("50000, kind " + kind, Edge.links(x, kind, 0, 2), "(0,0)(1,1)");
        }
        x.least(50001);
        for (int kind = 0; kind < KINDS; kind++) {
            Edge.due("50001, kind " + kind, Edge.links(x, kind, 0, 2), "");
        }
        x = leastOf(50000, Edge.with("a b=x;c=y z"));
        Edge.due("forth 100000", Edge.links(x, 0, 0, 2), "(0,0)");
        Edge.due("back 50000", Edge.links(x, 1, 0, 2), "(0,0)(1,0)");
        x.least(50001);
        Edge.due("forth 100000", Edge.links(x, 0, 0, 2), "(0,0)");
        Edge.due("back below", Edge.links(x, 1, 0, 2), "");
        Edge.due("not both", Edge.links(x, 2, 0, 2), "");
        Edge.due("one of both", Edge.links(x, 3, 0, 2), "(0,0)");
        Edge.due("nothing to grow from", Edge.links(x, 4, 0, 2), "");
        Edge.due("filled up all the same", Edge.links(x, 5, 0, 2), "(0,0)");
    }

    /** In pair 1 b has the greater share for y; by places a, the first of both, has the greater worth. */
    private static WordLinks apartByPlaces() {
        WordLinks x = Edge.with("a b=x;a b=y;a=x;" + Edge.times("c=z", 6, ";"));
        x.placed(true);
        x.rounds(0, 4);
        return x;
    }

    static void promise24_worthChoosesAndTheShareIsHeldAgainstLeast() {
        WordLinks x = apartByPlaces();
        Edge.due("a's share for y", x.share(0, 0, 1) < 40000, true);
        Edge.due("b's share for y", x.share(0, 1, 1) > 50000, true);
        Edge.due("placed: a", Edge.links(x, 0, 1, 2), "(0,0)");
        x.least(50000);
        Edge.due("a's share is below, and b does not come for it", Edge.links(x, 0, 1, 2), "");
        x.placed(false);
        Edge.due("not placed: b", Edge.links(x, 0, 1, 2), "(1,0)");
        x = Edge.onePair(2, 2);
        x.placed(true);
        x.least(50001);
        Edge.due("the share alone, not the worth", Edge.links(x, 0, 0, 2), "");
    }

    private static void grown(WordLinks x, int l, String both, String either, String four, String five) {
        Edge.due("both", Edge.links(x, 2, 0, l), both);
        Edge.due("one or both", Edge.links(x, 3, 0, l), either);
        Edge.due("grown", Edge.links(x, 4, 0, l), four);
        Edge.due("filled up", Edge.links(x, 5, 0, l), five);
    }

    static void promise24_neighboursAreAlsoThoseAcrossCorners() {
        // (0,0) comes beside (1,1); (1,0) then has links at both ends
        grown(Edge.with("a c=b b;a=e"), 2, "(1,1)", "(0,0)(1,0)(1,1)", "(0,0)(1,1)", "(0,0)(1,1)");
        // (0,1) comes beside (1,0)
        grown(Edge.byLetters("d b d=a d"), 3, "(1,0)(2,1)", "(0,1)(1,0)(2,1)", "(0,1)(1,0)(2,1)",
                "(0,1)(1,0)(2,1)");
    }

    static void promise24_oneOfBothEndsWithoutLinkIsEnough() {
        // (1,2): 1 has a link, 2 none; (2,1): 2 has none, 1 has one
        grown(Edge.with("b a=b c d"), 2, "(0,0)(1,1)", "(0,0)(1,1)(1,2)", "(0,0)(1,1)(1,2)", "(0,0)(1,1)(1,2)");
        grown(Edge.with("a b f=b b"), 3, "(0,0)(1,1)", "(0,0)(1,1)(2,1)", "(0,0)(1,1)(2,1)", "(0,0)(1,1)(2,1)");
    }

    static void promise24_neighboursAreNoMoreThanOneApart() {
        // (0,0) is two places from (2,0) and (2,1): it comes the second time over, beside (1,1)
        grown(Edge.with("b b e=c e;b=a"), 3, "(2,1)", "(0,0)(1,1)(2,0)(2,1)", "(0,0)(1,1)(2,0)(2,1)",
                "(0,0)(1,1)(2,0)(2,1)");
        // the same by j: (0,0) beside (1,1), so that (0,2) has come ahead of it
        grown(Edge.with("b b=f f d;c=f"), 2, "(1,2)", "(0,0)(0,2)(1,1)(1,2)", "(0,0)(0,2)(1,1)(1,2)",
                "(0,0)(0,2)(1,1)(1,2)");
        // (2,2) and (1,3) have no neighbour: they come by kind 5, one of them
        grown(Edge.byLetters("ea b d=b ea a b"), 3, "(0,1)(1,0)", "(0,1)(1,0)(1,3)(2,2)(2,3)", "(0,1)(1,0)",
                "(0,1)(1,0)(2,2)");
    }

    static void promise24_itGrowsTillATimeOverBringsNone() {
        // first (2,1) and (3,0), then (1,0), then (0,0)
        grown(Edge.with("c c c a=f f;c=e"), 4, "(3,1)", "(0,0)(1,0)(2,1)(3,0)(3,1)", "(0,0)(1,0)(2,1)(3,0)(3,1)",
                "(0,0)(1,0)(2,1)(3,0)(3,1)");
    }

    static void promise24_itGrowsByIThenJAndAtOnce() {
        // (1,1) comes first, so (1,2) has links at both ends; then (0,0), so (0,2) has, too
        grown(Edge.with("f e f=b b e;a=b"), 3, "(2,2)", "(0,0)(0,2)(1,1)(1,2)(2,2)", "(0,0)(1,1)(2,2)",
                "(0,0)(1,1)(2,2)");
    }

    static void promise24_kind5NeedsBothEndsWithoutLink() {
        // (0,0): column 0 has a link by (2,0), row 0 has none
        grown(Edge.byLetters("e a d=d d a"), 3, "(1,2)(2,1)", "(0,0)(1,2)(2,0)(2,1)", "(1,2)(2,0)(2,1)",
                "(1,2)(2,0)(2,1)");
        // (0,0): row 0 has a link by (0,2), column 0 has none
        grown(Edge.byLetters("d d e=b e d"), 3, "(1,2)(2,1)", "(0,0)(0,2)(1,2)(2,1)", "(0,2)(1,2)(2,1)",
                "(0,2)(1,2)(2,1)");
    }

    // ---- promise 25: linked

    static void promise25_kindsAndPairsThatThereAre() {
        for (int odd : Edge.ODD) {
            Edge.leavesAll("linked(" + odd + ", 0)", -2, x -> x.linked(odd, 0));
            Edge.leavesAll("linked(" + odd + ", -1)", -2, x -> x.linked(odd, -1));
            Edge.leavesAll("linked(0, " + odd + ")", -2, x -> x.linked(0, odd));
        }
        for (int kind : NO_KIND) {
            Edge.leavesAll("linked(" + kind + ", 0)", -2, x -> x.linked(kind, 0));
            Edge.leavesAll("linked(" + kind + ", -1)", -2, x -> x.linked(kind, -1));
        }
        for (int kind = 0; kind < KINDS; kind++) {
            int by = kind;
            for (int pair : NO_PAIR) {
                Edge.leavesAll("linked(" + kind + ", " + pair + ")", -2, x -> x.linked(by, pair));
            }
            Edge.leavesAll("linked(" + kind + ", -1)", Edge.scene().linked(kind, -1), x -> x.linked(by, -1));
            Edge.due("all of no pairs", new WordLinks().linked(kind, -1), 0);
            Edge.due("no pair 0", new WordLinks().linked(kind, 0), -2);
        }
    }

    static void promise25_fromNoneToAll() {
        WordLinks x = new WordLinks();
        for (int k = 0; k < 24; k++) {
            Edge.pairs(x, "a=u v w x y z");
        }
        Edge.due("six", x.linked(0, 23), 6);
        Edge.due("144", x.linked(0, -1), 144);
        Edge.due("one of each", x.linked(1, -1), 24);
        Edge.due("both", x.linked(2, -1), 24);
        Edge.due("one or both", x.linked(3, -1), 144);
        x.least(100000);
        Edge.due("back alone", x.linked(3, -1), 24);
        Edge.due("none forth", x.linked(0, -1), 0);
        Edge.due("none of both", x.linked(2, 0), 0);
    }

    // ---- promise 26: pair

    static void promise26_kindsPairsAndWhatThatThereAre() {
        for (int odd : Edge.ODD) {
            Edge.leavesAll("pair(" + odd + ", 0, 0)", -1, x -> x.pair(odd, 0, 0));
            Edge.leavesAll("pair(0, " + odd + ", 0)", -1, x -> x.pair(0, odd, 0));
            Edge.leavesAll("pair(0, 0, " + odd + ")", -1, x -> x.pair(0, 0, odd));
        }
        for (int kind : NO_KIND) {
            Edge.leavesAll("pair(" + kind + ", 0, 0)", -1, x -> x.pair(kind, 0, 0));
        }
        for (int what = 0; what < 4; what++) {
            int of = what;
            Edge.leavesAll("pair(2, 0, " + what + ")", Edge.scene().pair(2, 0, what), x -> x.pair(2, 0, of));
            for (int pair : new int[] {-1, 3, 24}) {
                Edge.leavesAll("pair(2, " + pair + ", " + what + ")", -1, x -> x.pair(2, pair, of));
            }
        }
        for (int what : new int[] {-1, 4, 5}) {
            Edge.leavesAll("pair(0, 0, " + what + ")", -1, x -> x.pair(0, 0, what));
        }
        Edge.due("no pairs", new WordLinks().pair(0, 0, 0), -1);
    }

    static void promise26_aBoxHasOneToThreePlacesOfEachSide() {
        Edge.due("one by one", Edge.onePair(1, 1).pair(2, 0, 0), 1);
        int[] boxes = {1, 3, 6, 9, 12, 15};
        for (int n = 1; n <= 6; n++) {
            Edge.due(n + " in a row", Edge.onePair(n, n).pair(2, 0, 0), boxes[n - 1]);
        }
        Edge.due("six turned round", Edge.byLetters("a b c d e f=f e d c b a").pair(2, 0, 0), 15);
        Edge.due("one to two", Edge.onePair(1, 2).pair(0, 0, 0), 1);
        Edge.due("one to three", Edge.onePair(1, 3).pair(0, 0, 0), 1);
        Edge.due("one to four", Edge.onePair(1, 4).pair(0, 0, 0), 0);
        Edge.due("three to one", Edge.onePair(3, 1).pair(1, 0, 0), 1);
        Edge.due("four to one", Edge.onePair(4, 1).pair(1, 0, 0), 0);
    }

    /** Linked are (0,0) and (2,2): b and y have too small a share. */
    private static WordLinks gap() {
        return leastOf(40000, Edge.byLetters("a b c=a y c"));
    }

    static void promise26_aBoxMayHoldPlacesWithoutLinksButNotBeWithout() {
        WordLinks x = gap();
        Edge.due("links", Edge.links(x, 2, 0, 3), "(0,0)(2,2)");
        Edge.due("four with the one, four with the other, one with both", x.pair(2, 0, 0), 9);
        x.least(100000);
        Edge.due("no links", x.pair(2, 0, 0), 0);
        x = Edge.with(Edge.BOOKS);
        Edge.due("links", Edge.links(x, 4, 0, 2), "(0,1)(1,0)(1,1)");
        Edge.due("all or a link has one end out", x.pair(4, 0, 0), 1);
        Edge.due("links", Edge.links(x, 0, 0, 2), "(1,0)(1,1)");
        Edge.due("with a, too, or b alone", x.pair(0, 0, 0), 2);
    }

    static void promise26_placesWithoutLinksAsBits() {
        WordLinks x = gap();
        Edge.due("b", x.pair(2, 0, 1), 2);
        Edge.due("y", x.pair(2, 0, 2), 2);
        x = Edge.onePair(6, 6);
        Edge.due("none of side 0", x.pair(0, 0, 1), 0);
        Edge.due("none of side 1", x.pair(0, 0, 2), 0);
        x.least(100000);
        Edge.due("all of side 0", x.pair(0, 0, 1), 63);
        Edge.due("all of side 1", x.pair(0, 0, 2), 63);
        x = Edge.onePair(1, 6);
        Edge.due("none of one", x.pair(1, 0, 1), 0);
        Edge.due("all but the first", x.pair(1, 0, 2), 62);
        x.least(100000);
        Edge.due("the only one", x.pair(0, 0, 1), 1);
        x = Edge.onePair(6, 1);
        Edge.due("all but the first", x.pair(0, 0, 1), 62);
        Edge.due("none of one", x.pair(0, 0, 2), 0);
    }

    static void promise26_linksThatCrossFrom0To15() {
        Edge.due("all cross", Edge.byLetters("a b c d e f=f e d c b a").pair(3, 0, 3), 15);
        Edge.due("none", Edge.onePair(6, 6).pair(3, 0, 3), 0);
        Edge.due("links of one place don't", Edge.onePair(1, 6).pair(0, 0, 3), 0);
        Edge.due("links to one place don't", Edge.onePair(6, 1).pair(1, 0, 3), 0);
        Edge.due("two", Edge.byLetters("a b=b a").pair(2, 0, 3), 1);
        Edge.due("(0,1) and (1,0), not (1,1)", Edge.with(Edge.BOOKS).pair(4, 0, 3), 1);
    }

    // ---- promise 27: cut

    static void promise27_kindsPairsAndWhatThatThereAre() {
        for (int odd : Edge.ODD) {
            Edge.leavesAll("cut(" + odd + ", 0, 0)", -1, x -> x.cut(odd, 0, 0));
            Edge.leavesAll("cut(0, " + odd + ", 0)", -1, x -> x.cut(0, odd, 0));
            Edge.leavesAll("cut(0, 0, " + odd + ")", -1, x -> x.cut(0, 0, odd));
        }
        for (int kind : NO_KIND) {
            Edge.leavesAll("cut(" + kind + ", 0, 0)", -1, x -> x.cut(kind, 0, 0));
        }
        for (int pair : new int[] {-1, 3, 24}) {
            Edge.leavesAll("cut(0, " + pair + ", 0)", -1, x -> x.cut(0, pair, 0));
        }
        for (int what : new int[] {-1, 3, 4}) {
            Edge.leavesAll("cut(0, 0, " + what + ")", -1, x -> x.cut(0, 0, what));
        }
        Edge.leavesAll("i", 1, x -> x.cut(0, 0, 0));
        Edge.leavesAll("j", 1, x -> x.cut(0, 0, 1));
        Edge.due("no pairs", new WordLinks().cut(0, 0, 0), -1);
    }

    static void promise27_oneWordAloneCantBeCut() {
        for (String text : new String[] {"a=x", "a=x y", "a b=x", "a=u v w x y z", "a b c d e f=x"}) {
            for (int kind = 0; kind < KINDS; kind++) {
                for (int what = 0; what < 3; what++) {
                    int by = kind;
                    int of = what;
                    Edge.leavesAll(() -> Edge.with(text), "cut of " + text, -2, x -> x.cut(by, 0, of));
                }
            }
            Edge.due("no such what comes ahead", Edge.with(text).cut(0, 0, 3), -1);
            Edge.due("no such kind comes ahead", Edge.with(text).cut(6, 0, 0), -1);
            Edge.due("no such pair comes ahead", Edge.with(text).cut(0, 1, 0), -1);
        }
    }

    private static void cutOf(String call, WordLinks x, int kind, int i, int j, int links) {
        Edge.due("i of " + call, x.cut(kind, 0, 0), i);
        Edge.due("j of " + call, x.cut(kind, 0, 1), j);
        Edge.due("links of " + call, x.cut(kind, 0, 2), links);
    }

    static void promise27_fromTheFirstCutToTheLast() {
        cutOf("two by two", Edge.onePair(2, 2), 2, 1, 1, 0);
        cutOf("two turned round", Edge.byLetters("a b=b a"), 2, 1, 1, 2);
        cutOf("without links", leastOf(100000, Edge.onePair(6, 6)), 3, 1, 1, 0);
        // a goes behind e: the last cut alone has no link across
        cutOf("the last of six", Edge.byLetters("a b c d e f=b c d e a f"), 2, 5, 5, 0);
        cutOf("six by two", Edge.onePair(6, 2), 0, 1, 1, 0);
    }

    static void promise27_ofLikeCutsTheLeastIThenTheLeastJ() {
        // (0,0) and (2,2): four cuts without a link across
        cutOf("gap", gap(), 2, 1, 1, 0);
        // (0,1) and (2,2): (1,2) and (2,2)
        cutOf("j later", leastOf(40000, Edge.byLetters("a b c=y a c")), 2, 1, 2, 0);
        // (1,0) and (2,2): (2,1) and (2,2)
        cutOf("i later", leastOf(40000, Edge.byLetters("b a c=a y c")), 2, 2, 1, 0);
        // all turned round: two across at (1,1) and at (2,2), three else
        cutOf("three turned round", Edge.byLetters("a b c=c b a"), 2, 1, 1, 2);
    }

    // ---- promise 28: partings

    static void promise28_kindsAndPairsThatThereAre() {
        for (int odd : Edge.ODD) {
            Edge.leavesAll("partings(" + odd + ", 0)", -1, x -> x.partings(odd, 0));
            Edge.leavesAll("partings(0, " + odd + ")", -1, x -> x.partings(0, odd));
        }
        for (int kind : NO_KIND) {
            Edge.leavesAll("partings(" + kind + ", 0)", -1, x -> x.partings(kind, 0));
        }
        for (int pair : new int[] {-1, 3, 24}) {
            Edge.leavesAll("partings(0, " + pair + ")", -1, x -> x.partings(0, pair));
        }
        Edge.leavesAll("partings", Edge.scene().partings(0, 0), x -> x.partings(0, 0));
        Edge.due("no pairs", new WordLinks().partings(0, 0), -1);
    }

    static void promise28_onePlaceAloneIsOneParting() {
        for (int n = 1; n <= 6; n++) {
            for (int kind = 0; kind < KINDS; kind++) {
                Edge.due("1 by " + n, Edge.onePair(1, n).partings(kind, 0), 1);
                Edge.due(n + " by 1", Edge.onePair(n, 1).partings(kind, 0), 1);
            }
            Edge.due("without links", leastOf(100000, Edge.onePair(1, n)).partings(2, 0), 1);
        }
    }

    static void promise28_twoByTwo() {
        Edge.due("without links: forth and turned round", leastOf(100000, Edge.onePair(2, 2)).partings(3, 0), 2);
        Edge.due("forth alone", Edge.onePair(2, 2).partings(2, 0), 1);
        Edge.due("turned round alone", Edge.byLetters("a b=b a").partings(2, 0), 1);
        Edge.due("neither", Edge.with(Edge.BOOKS).partings(4, 0), 0);
        Edge.due("one link: forth", leastOf(40000, Edge.byLetters("a b=a y")).partings(2, 0), 1);
        Edge.due("one link: turned round", leastOf(40000, Edge.byLetters("a b=y a")).partings(2, 0), 1);
    }

    static void promise28_inARowOrTurnedRound() {
        int[] ways = {1, 1, 2, 5, 14, 42};
        for (int n = 1; n <= 6; n++) {
            Edge.due(n + " in a row", Edge.onePair(n, n).partings(2, 0), ways[n - 1]);
            String back = new StringBuilder("abcdef".substring(0, n)).reverse().toString().replace("", " ").trim();
            String forth = "abcdef".substring(0, n).replace("", " ").trim();
            Edge.due(n + " turned round", Edge.byLetters(forth + "=" + back).partings(2, 0), ways[n - 1]);
        }
        Edge.due("none: 2 4 1 3", Edge.byLetters("a b c d=c a d b").partings(2, 0), 0);
        Edge.due("none: 3 1 4 2", Edge.byLetters("a b c d=b d a c").partings(2, 0), 0);
    }

    static void promise28_withoutLinksAllCutsCount() {
        Edge.due("2 by 3", leastOf(100000, Edge.onePair(2, 3)).partings(3, 0), 4);
        Edge.due("3 by 3", leastOf(100000, Edge.onePair(3, 3)).partings(3, 0), 12);
        for (int l = 2; l <= 6; l++) {
            for (int m = 2; m <= 6; m++) {
                WordLinks x = leastOf(100000, Edge.onePair(l, m));
                Edge.due(l + " by " + m, x.partings(3, 0), apart(l, m));
            }
        }
    }

    private static long apart(int p, int q) {
        long all = 0;
        for (int i = 1; i < p; i++) {
            for (int j = 1; j < q; j++) {
                all += apart(i, j) * apart(p - i, q - j) + apart(i, q - j) * apart(p - i, j);
            }
        }
        return p == 1 || q == 1 ? 1 : all;
    }

    // ---- promise 29: phrases

    static void promise29_kindsThatThereAre() {
        for (int odd : Edge.ODD) {
            Edge.leavesAll("phrases(" + odd + ")", -1, x -> x.phrases(odd));
        }
        for (int kind : NO_KIND) {
            Edge.leavesAll("phrases(" + kind + ")", -1, x -> x.phrases(kind));
        }
        for (int kind = 0; kind < KINDS; kind++) {
            int by = kind;
            Edge.leavesAll("phrases(" + kind + ")", Edge.scene().phrases(kind), x -> x.phrases(by));
        }
    }

    static void promise29_fromNoneOn() {
        WordLinks x = new WordLinks();
        Edge.due("no pairs", x.phrases(0), 0);
        x = Edge.onePair(3, 3);
        Edge.due("three in a row", x.phrases(2), 6);
        x.least(100000);
        Edge.due("no links", x.phrases(2), 0);
        x = Edge.with(Edge.times("a=x", 12, ";"));
        Edge.pairs(x, Edge.times("a=x", 12, ";"));
        Edge.due("like ones are one", x.phrases(2), 1);
        Edge.due("its boxes", x.phrase(2, 0, 0), 24);
        x = Edge.with("a a a a a a=x x x x x x");
        Edge.due("like ones of one pair", x.phrases(2), 3);
        Edge.due("boxes of one place", x.phrase(2, 0, 0), 6);
        Edge.due("boxes of two", x.phrase(2, 1, 0), 5);
        Edge.due("boxes of three", x.phrase(2, 2, 0), 4);
        // 36 words of each side, six times six in a row: each box is a phrase of its own
        x = Edge.sized(6, 36, 36);
        Edge.due("six times fifteen", x.phrases(2), 90);
        Edge.due("the last one", x.phrase(2, 89, 10), 35);
        Edge.due("no other behind it", x.phrase(2, 90, 10), -1);
    }

    // ---- promise 30: phrase

    private static WordLinks rows() {
        return Edge.with("b=y;a=x;b a=y x");
    }

    static void promise30_kindsPhrasesAndWhatThatThereAre() {
        for (int odd : Edge.ODD) {
            Edge.leavesAll("phrase(" + odd + ", 0, 0)", -1, x -> x.phrase(odd, 0, 0));
            Edge.leavesAll("phrase(0, " + odd + ", 0)", -1, x -> x.phrase(0, odd, 0));
            Edge.leavesAll("phrase(0, 0, " + odd + ")", -1, x -> x.phrase(0, 0, odd));
        }
        for (int kind : NO_KIND) {
            Edge.leavesAll("phrase(" + kind + ", 0, 0)", -1, x -> x.phrase(kind, 0, 0));
        }
        for (int kind = 0; kind < KINDS; kind++) {
            int by = kind;
            int phrases = Edge.scene().phrases(kind);
            for (int phrase : new int[] {-1, phrases, phrases + 1, 9999}) {
                Edge.leavesAll("phrase(" + kind + ", " + phrase + ", 0)", -1, x -> x.phrase(by, phrase, 0));
                Edge.leavesAll("phrase(" + kind + ", " + phrase + ", 12)", -1, x -> x.phrase(by, phrase, 12));
            }
            Edge.leavesAll("the last of kind " + kind, Edge.scene().phrase(kind, phrases - 1, 0),
                    x -> x.phrase(by, phrases - 1, 0));
        }
        for (int what : new int[] {-1, 5, 6, 9, 13, 14, 19, 23, 24, 30}) {
            Edge.leavesAll("phrase(0, 0, " + what + ")", -1, x -> x.phrase(0, 0, what));
        }
        Edge.due("no pairs", new WordLinks().phrase(0, 0, 0), -1);
    }

    static void promise30_oneToThreeWordsASide() {
        WordLinks x = Edge.onePair(3, 3);
        // 0, 0 1, 0 1 2, 1, 1 2, 2
        int[] first = {0, 0, 0, 1, 1, 2};
        int[] words = {1, 2, 3, 1, 2, 1};
        for (int phrase = 0; phrase < 6; phrase++) {
            Edge.due("words of side 0", x.phrase(2, phrase, 1), words[phrase]);
            Edge.due("words of side 1", x.phrase(2, phrase, 2), words[phrase]);
            for (int k = 0; k < 3; k++) {
                int want = k < words[phrase] ? first[phrase] + k : -4;
                Edge.due("word " + k + " of side 0 of " + phrase, x.phrase(2, phrase, 10 + k), want);
                Edge.due("word " + k + " of side 1 of " + phrase, x.phrase(2, phrase, 20 + k), want);
            }
        }
        x = Edge.onePair(1, 3);
        Edge.due("one word", x.phrase(0, 0, 1), 1);
        Edge.due("three words", x.phrase(0, 0, 2), 3);
        Edge.due("not so many", x.phrase(0, 0, 11), -4);
        Edge.due("the third", x.phrase(0, 0, 22), 2);
        Supplier<WordLinks> scene = () -> Edge.onePair(1, 3);
        Edge.leavesAll(scene, "not so many", -4, y -> y.phrase(0, 0, 12));
        x = Edge.sized(0, 40, 40);
        Edge.due("word 39 of side 0", x.phrase(2, x.phrases(2) - 1, 10), 39);
        Edge.due("word 39 of side 1", x.phrase(2, x.phrases(2) - 1, 20), 39);
    }

    static void promise30_aBeginningComesAheadThenByNumbers() {
        WordLinks x = rows();
        x.rounds(0, 9);
        x.rounds(1, 9);
        Edge.due("b, b a, a", x.phrases(2), 3);
        Edge.due("b", x.phrase(2, 0, 10), 0);
        Edge.due("b alone", x.phrase(2, 0, 1), 1);
        Edge.due("b a", x.phrase(2, 1, 1), 2);
        Edge.due("a", x.phrase(2, 2, 10), 1);
        // (0,0) of three: the row of side 1 may be longer: its beginning comes ahead
        x = leastOf(50000, Edge.byLetters("a=a y z"));
        Edge.due("links", Edge.links(x, 0, 0, 1), "(0,0)");
        Edge.due("a, a y, a y z", x.phrases(0), 3);
        for (int k = 0; k < 3; k++) {
            Edge.due("words of side 1 of phrase " + k, x.phrase(0, k, 2), k + 1);
            Edge.due("boxes with its row of side 0", x.phrase(0, k, 3), 3);
            Edge.due("cost: 1050 less 333", x.phrase(0, k, 4), 717);
        }
        // rows of side 1: 0 1, then 1, for the like row of side 0
        x = leastOf(50000, Edge.byLetters("a=y a z;y=y"));
        Edge.due("a: y a, y a z, a, a z; y", x.phrases(0), 5);
        int[] first = {0, 0, 1, 1};
        int[] words = {2, 3, 1, 2};
        for (int k = 0; k < 4; k++) {
            Edge.due("first word of side 1 of phrase " + k, x.phrase(0, k, 20), first[k]);
            Edge.due("words of side 1 of phrase " + k, x.phrase(0, k, 2), words[k]);
        }
    }

    static void promise30_theCostIs1050LessWhatIsCut() {
        WordLinks x = rows();
        x.rounds(0, 9);
        x.rounds(1, 9);
        Edge.due("all of its row", x.phrase(2, 0, 4), 50);
        Edge.due("boxes", x.phrase(2, 0, 0), 2);
        Edge.due("boxes of its row, not of the longer one", x.phrase(2, 0, 3), 2);
        x = Edge.with("a=x;a=y");
        Edge.due("half", x.phrase(0, 0, 4), 550);
        x = Edge.with("a=x;a=y;a=y");
        Edge.due("a third: 1050 less 333", x.phrase(0, 0, 4), 717);
        Edge.due("two thirds: 1050 less 666", x.phrase(0, 1, 4), 384);
        x = Edge.with("a=x;" + Edge.times("a=y", 11, ";"));
        Edge.pairs(x, Edge.times("a=y", 12, ";"));
        Edge.due("one of 24: 1050 less 41", x.phrase(0, 0, 4), 1009);
        Edge.due("23 of 24: 1050 less 958", x.phrase(0, 1, 4), 92);
        Edge.due("boxes", x.phrase(0, 1, 0), 23);
        Edge.due("boxes of its row", x.phrase(0, 0, 3), 24);
    }

    static void promise30_whatWasAskedBeforeDoesNotCount() {
        WordLinks x = Edge.with("a=x;a=y;b=y");
        Edge.due("three", x.phrases(0), 3);
        Edge.due("boxes of a's row", x.phrase(0, 0, 3), 2);
        x.drop();
        x.drop();
        Edge.due("one", x.phrases(0), 1);
        Edge.due("boxes of a's row", x.phrase(0, 0, 3), 1);
        Edge.due("cost", x.phrase(0, 0, 4), 50);
        Edge.due("no second one", x.phrase(0, 1, 0), -1);
        x = Edge.with(Edge.BOOKS);
        for (int kind = 0; kind < KINDS; kind++) {
            x.phrases((kind + 1) % KINDS);
            for (int phrase = 0; phrase < x.phrases(kind); phrase++) {
                x.phrases((kind + 3) % KINDS);
                WordLinks y = Edge.with(Edge.BOOKS);
                Edge.due("boxes of its row", x.phrase(kind, phrase, 3), y.phrase(kind, phrase, 3));
                Edge.due("boxes", x.phrase(kind, phrase, 0), y.phrase(kind, phrase, 0));
            }
        }
    }

    // ---- promise 31: over

    static void promise31_kindsNAndWhatThatThereAre() {
        for (int odd : Edge.ODD) {
            Edge.leavesAll("over(" + odd + ", 3, 0)", -1, x -> x.over(odd, 3, 0));
            Edge.leavesAll("over(0, " + odd + ", 0)", -1, x -> x.over(0, odd, 0));
            Edge.leavesAll("over(0, 3, " + odd + ")", -1, x -> x.over(0, 3, odd));
        }
        for (int kind : NO_KIND) {
            Edge.leavesAll("over(" + kind + ", 3, 0)", -1, x -> x.over(kind, 3, 0));
        }
        for (int n : new int[] {-1, 0, 21, 80, 81, 82, 240}) {
            Edge.leavesAll("over(0, " + n + ", 0) with 20 bytes", -1, x -> x.over(0, n, 0));
        }
        for (int n : new int[] {-1, 0, 81, 82, 200, 240, 241}) {
            Edge.leavesAll(LinkEdges::longTape, "over(0, " + n + ", 0) with 240 bytes", -1, x -> x.over(0, n, 0));
        }
        for (int what : new int[] {-1, 3, 4, 9, 18, 19, 99, 124, 125, 9999}) {
            Edge.leavesAll("over(0, 3, " + what + ")", -1, x -> x.over(0, 3, what));
        }
        Edge.leavesAll(WordLinks::new, "an empty tape", -1, x -> x.over(0, 1, 0));
    }

    private static WordLinks longTape() {
        WordLinks x = Edge.with("a=x");
        Edge.put(x, Edge.times("a a a a=x x x x", 12, ";") + Edge.times("x", 49, ""));
        return x;
    }

    static void promise31_noneComesAheadOfWhatIsNoRow() {
        Edge.leavesAll("no such what, no known words", -1, x -> x.over(0, 20, 3));
        Edge.leavesAll("no such kind, no known words", -1, x -> x.over(6, 20, 0));
        Edge.leavesAllButTape("neu haus=new housing", "over", -2, x -> x.over(0, 20, 0));
    }

    static void promise31_whatIsNoRowEmptiesTheTape() {
        String[] texts = {
            " das", "das ", "das  haus", "neu", "das neu", "the", "da", "DAS", "das=the", "das;das", "hausauss",
            "das,das", "das das das das das das das das das", "das das das das das das das das ", "das d",
            Edge.times("das", 20, " ") + " "
        };
        for (String text : texts) {
            for (int what : new int[] {0, 1, 2, 10, 17, 100, 123}) {
                Edge.leavesAllButTape(text, "over", -2, x -> x.over(2, text.length(), what));
            }
        }
        Edge.leavesAllButTape(WordLinks::new, "a", "over", -2, x -> x.over(2, 1, 0));
    }

    static void promise31_anAnswerEmptiesTheTapeAndChangesNothingElse() {
        for (int what : new int[] {0, 1, 2, 10, 11, 17, 100, 101, 123}) {
            int want = Edge.over(withoutTape(), 2, "das", what);
            Edge.leavesAllButTape("das", "over, what " + what, want, x -> x.over(2, 3, what));
        }
    }

    private static WordLinks withoutTape() {
        WordLinks x = Edge.scene();
        Edge.emptyTape(x);
        return x;
    }

    static void promise31_aRowHasOneToEightWords() {
        WordLinks x = Edge.with("a=x;abcdefg=y");
        Edge.due("one", Edge.over(x, 2, "a", 0), 50);
        Edge.due("eight", Edge.over(x, 2, Edge.times("a", 8, " "), 0), 400);
        Edge.due("pieces", Edge.over(x, 2, Edge.times("a", 8, " "), 1), 8);
        Edge.due("nine", Edge.over(x, 2, Edge.times("a", 9, " "), 0), -2);
        Edge.due("eight of seven letters", Edge.over(x, 2, Edge.times("abcdefg", 8, " "), 0), 400);
        Edge.due("and a blank", Edge.over(x, 2, Edge.times("abcdefg", 8, " ") + " ", 0), -2);
        String nine = Edge.times("abcdefg", 9, " ");
        Edge.due("nine of seven letters", Edge.over(x, 2, nine, 0), -2);
        Edge.put(x, Edge.times("abcdefg", 10, " ") + " a");
        Edge.due("81 bytes are none", x.over(2, 81, 0), -1);
        Edge.due("80 bytes are no such row", x.over(2, 80, 0), -2);
        Edge.put(x, "a abcdefg");
        Edge.due("the first byte alone", x.over(2, 1, 100), 0);
        Edge.due("the tape is empty", x.count(2), 0);
    }

    static void promise31_oneToEightPieces() {
        WordLinks x = Edge.with("a=x");
        for (int k = 0; k < 8; k++) {
            Edge.due("one piece", Edge.over(x, 2, "a", 10 + k), k == 0 ? 0 : -4);
            Edge.due("eight pieces", Edge.over(x, 2, Edge.times("a", 8, " "), 10 + k), 0);
            Edge.due("seven pieces", Edge.over(x, 2, Edge.times("a", 7, " "), 10 + k), k < 7 ? 0 : -4);
        }
        Edge.put(x, "a");
        Edge.due("no piece 8", x.over(2, 1, 18), -1);
        Edge.due("the tape stays", x.count(2), 20);
    }

    static void promise31_oneTo24WordsThatCome() {
        WordLinks x = Edge.with("a=x y z");
        String eight = Edge.times("a", 8, " ");
        Edge.due("cost", Edge.over(x, 0, eight, 0), 400);
        Edge.due("words", Edge.over(x, 0, eight, 2), 24);
        for (int k = 0; k < 24; k++) {
            Edge.due("word " + k, Edge.over(x, 0, eight, 100 + k), k % 3);
            Edge.due("word " + k + " of one", Edge.over(x, 0, "a", 100 + k), k < 3 ? k : -4);
        }
        Edge.put(x, eight);
        Edge.due("no word 24", x.over(0, 15, 124), -1);
        Edge.due("the tape stays", x.count(2), 20);
        x = Edge.with("a b c=x");
        Edge.due("one word of three", Edge.over(x, 1, "a b c", 2), 1);
        Edge.due("no second one", Edge.over(x, 1, "a b c", 101), -4);
    }

    static void promise31_oneWordLeftAsItIsCosts2000() {
        WordLinks x = Edge.with("a b=x;b c=y");
        Edge.due("a alone is in no phrase", Edge.over(x, 1, "a", 0), 2000);
        Edge.due("its piece", Edge.over(x, 1, "a", 10), 9999);
        Edge.due("one word comes", Edge.over(x, 1, "a", 2), 1);
        Edge.due("it is left", Edge.over(x, 1, "a", 100), -3);
        Edge.due("no second one", Edge.over(x, 1, "a", 101), -4);
        Edge.due("eight left", Edge.over(x, 1, Edge.times("a", 8, " "), 0), 16000);
        Edge.due("eight pieces", Edge.over(x, 1, Edge.times("a", 8, " "), 1), 8);
        Edge.due("the eighth piece", Edge.over(x, 1, Edge.times("a", 8, " "), 17), 9999);
        Edge.due("the eighth word", Edge.over(x, 1, Edge.times("a", 8, " "), 107), -3);
        Edge.due("no ninth", Edge.over(x, 1, Edge.times("a", 8, " "), 108), -4);
        Edge.due("a phrase and one left", Edge.over(x, 1, "b a b", 0), 2050);
        Edge.due("the left one first", Edge.over(x, 1, "b a b", 10), 9999);
        Edge.due("then a b", Edge.over(x, 1, "b a b", 11), 0);
        Edge.due("-3, then x", Edge.over(x, 1, "b a b", 100), -3);
        Edge.due("-3, then x", Edge.over(x, 1, "b a b", 101), 0);
        x.least(100000);
        Edge.due("without phrases", Edge.over(x, 2, "a b c", 0), 6000);
    }

    static void promise31_aPhrasesRowIsTheWordsThemselves() {
        WordLinks x = Edge.with("a=x;b=y;c d=z w;e f=v");
        Edge.due("b's phrase", Edge.over(x, 2, "b", 10), 1);
        Edge.due("b's word", Edge.over(x, 2, "b", 100), 1);
        Edge.due("b a", Edge.over(x, 2, "b a", 10), 1);
        Edge.due("then a", Edge.over(x, 2, "b a", 11), 0);
        Edge.due("e alone is in no phrase", Edge.over(x, 1, "e", 10), 9999);
        Edge.due("f alone is in none", Edge.over(x, 1, "a f", 0), 2050);
        Edge.due("e f is in one", Edge.over(x, 1, "e f", 0), 50);
        Edge.due("f e is in none", Edge.over(x, 1, "f e", 0), 4000);
        Edge.due("e e is in none", Edge.over(x, 1, "e e", 0), 4000);
        Edge.due("a row goes on behind it", Edge.over(x, 1, "e f e f b", 0), 150);
        Edge.due("a row that ends ahead of it", Edge.over(x, 1, "e f e", 0), 2050);
    }

    static void promise31_theLeastCostThenTheFewestPieces() {
        WordLinks x = Edge.onePair(4, 4);
        Edge.due("two phrases of four words", Edge.over(x, 2, "aa ab ac ad", 0), 100);
        Edge.due("pieces", Edge.over(x, 2, "aa ab ac ad", 1), 2);
        Edge.due("the lower phrase first: aa alone", Edge.over(x, 2, "aa ab ac ad", 10), 0);
        Edge.due("then ab ac ad", Edge.over(x, 2, "aa ab ac ad", 11), 5);
        // a b costs 50, or a and b 50 each where each is a phrase alone
        x = Edge.onePair(2, 2);
        Edge.due("one phrase of two", Edge.over(x, 2, "aa ab", 1), 1);
        Edge.due("its number", Edge.over(x, 2, "aa ab", 10), 1);
        // the row of both stands for x y and for z, 550 each; a for x and b for y alone, 50 each
        x = Edge.with("a b=x y;a b=z");
        Edge.due("two are cheaper than one", Edge.over(x, 1, "a b", 0), 100);
        Edge.due("pieces", Edge.over(x, 1, "a b", 1), 2);
        // 19 of 20 boxes are z's: 1050 less 950, as much as both alone
        x = Edge.with("a b=x y;" + Edge.times("a b=z", 11, ";"));
        Edge.pairs(x, Edge.times("a b=z", 7, ";"));
        Edge.due("dearer with 18 of 19", x.phrase(1, 2, 4), 103);
        Edge.due("two pieces", Edge.over(x, 1, "a b", 1), 2);
        Edge.pairs(x, "a b=z");
        Edge.due("as much with 19 of 20", x.phrase(1, 2, 4), 100);
        Edge.due("cost", Edge.over(x, 1, "a b", 0), 100);
        Edge.due("the fewest pieces", Edge.over(x, 1, "a b", 1), 1);
        Edge.due("a b for z", Edge.over(x, 1, "a b", 10), 2);
    }

    static void promise31_ofLikeOnesTheFirstUnlikePieceIsTheLower() {
        WordLinks x = Edge.with("a=x;a=y");
        Edge.due("550 each", Edge.over(x, 0, "a", 0), 550);
        Edge.due("the lower phrase", Edge.over(x, 0, "a", 10), 0);
        Edge.due("its word", Edge.over(x, 0, "a", 100), 0);
        // a b and c left, or a left and b c: 2050 each
        x = Edge.with("a b=x;b c=y");
        Edge.due("cost", Edge.over(x, 1, "a b c", 0), 2050);
        Edge.due("pieces", Edge.over(x, 1, "a b c", 1), 2);
        Edge.due("a phrase is lower than what is left", Edge.over(x, 1, "a b c", 10), 0);
        Edge.due("c is left", Edge.over(x, 1, "a b c", 11), 9999);
        Edge.due("x", Edge.over(x, 1, "a b c", 100), 0);
        Edge.due("c", Edge.over(x, 1, "a b c", 101), -3);
    }
}

import java.util.function.Supplier;

/** Edges of promises 15 to 23: sides, words, what is found, shares, places, what a place gets in a round. */
final class WordEdges {
    private static final int[] NO_SIDE = {-2, -1, 2, 3};
    private static final Supplier<WordLinks> FULL = () -> Edge.sized(24, 40, 40);

    private WordEdges() {
    }

    // ---- promise 15: side

    static void promise15_sidesAre0And1AndWhatIs0Or1() {
        for (int odd : Edge.ODD) {
            Edge.leavesAll("side(" + odd + ", 0)", -1, x -> x.side(odd, 0));
            Edge.leavesAll("side(0, " + odd + ")", -1, x -> x.side(0, odd));
        }
        for (int side : NO_SIDE) {
            Edge.leavesAll("side(" + side + ", 0)", -1, x -> x.side(side, 0));
            Edge.leavesAll("side(" + side + ", 1)", -1, x -> x.side(side, 1));
            Edge.leavesAll("side(0, " + side + ")", -1, x -> x.side(0, side));
            Edge.leavesAll("side(1, " + side + ")", -1, x -> x.side(1, side));
        }
        Edge.leavesAll("words of side 0", 4, x -> x.side(0, 0));
        Edge.leavesAll("places of side 1", 6, x -> x.side(1, 1));
    }

    static void promise15_from0To40WordsAnd144Places() {
        WordLinks x = new WordLinks();
        Edge.due("words of none", x.side(1, 0), 0);
        Edge.due("places of none", x.side(0, 1), 0);
        x = Edge.sized(0, 40, 39);
        Edge.due("40 words", x.side(0, 0), 40);
        Edge.due("39 words", x.side(1, 0), 39);
        Edge.due("places", x.side(0, 1), 40);
        x = new WordLinks();
        for (int k = 0; k < 12; k++) {
            Edge.pairs(x, "a a a a a a=x y x y x y;b b b b b b=z z z z z z");
        }
        Edge.due("pairs", x.count(0), 24);
        Edge.due("places", x.side(0, 1), 144);
        Edge.due("places", x.side(1, 1), 144);
        Edge.due("words", x.side(0, 0), 2);
        Edge.due("words", x.side(1, 0), 3);
    }

    // ---- promise 16: word

    static void promise16_sidesWordsAndWhatThatThereAre() {
        for (int odd : Edge.ODD) {
            Edge.leavesAll("word(" + odd + ", 0, 0)", -1, x -> x.word(odd, 0, 0));
            Edge.leavesAll("word(0, " + odd + ", 0)", -1, x -> x.word(0, odd, 0));
            Edge.leavesAll("word(0, 0, " + odd + ")", -1, x -> x.word(0, 0, odd));
        }
        for (int side : NO_SIDE) {
            Edge.leavesAll("word(" + side + ", 0, 0)", -1, x -> x.word(side, 0, 0));
        }
        for (int word : new int[] {-1, 4, 40, 41}) {
            Edge.leavesAll("word(0, " + word + ", 0)", -1, x -> x.word(0, word, 0));
            Edge.leavesAll("word(1, " + word + ", 10)", -1, x -> x.word(1, word, 10));
        }
        for (int what : new int[] {-1, 7, 8, 9, 17, 18}) {
            Edge.leavesAll("word(0, 0, " + what + ")", -1, x -> x.word(0, 0, what));
        }
        Edge.due("no words", new WordLinks().word(0, 0, 0), -1);
        WordLinks x = Edge.with("a b=x");
        Edge.due("the last of side 0", x.word(0, 1, 0), 1);
        Edge.due("not of side 1", x.word(1, 1, 0), -1);
    }

    static void promise16_lettersFrom0To6() {
        WordLinks x = Edge.with("abcdyzg=a");
        Edge.due("letters", x.word(0, 0, 0), 7);
        Edge.due("letter 0", x.word(0, 0, 10), 97);
        Edge.due("letter 5", x.word(0, 0, 15), 122);
        Edge.due("letter 6", x.word(0, 0, 16), 'g');
        Edge.due("no letter 7", x.word(0, 0, 17), -1);
        Edge.due("one letter", x.word(1, 0, 0), 1);
        Edge.due("letter 0", x.word(1, 0, 10), 97);
        for (int k = 1; k < 7; k++) {
            Edge.due("not so many", x.word(1, 0, 10 + k), -4);
        }
        Edge.leavesAll("not so many", -4, y -> y.word(0, 0, 13));
        Edge.leavesAll("a letter", 's', y -> y.word(0, 0, 12));
    }

    static void promise16_placesFrom1To144() {
        WordLinks x = Edge.with("a b=x");
        Edge.due("once", x.word(0, 1, 1), 1);
        x = new WordLinks();
        for (int k = 0; k < 12; k++) {
            Edge.pairs(x, "a a a a a a=x y y y y y;a a a a a a=y y y y y y");
        }
        Edge.due("everywhere", x.word(0, 0, 1), 144);
        Edge.due("x", x.word(1, 0, 1), 12);
        Edge.due("y", x.word(1, 1, 1), 132);
        Edge.due("partners count once", x.word(0, 0, 2), 2);
        Edge.due("partners count once", x.word(1, 1, 2), 1);
    }

    static void promise16_partnersFrom1To40() {
        WordLinks x = Edge.sized(0, 1, 40);
        Edge.due("40 partners", x.word(0, 0, 2), 40);
        Edge.due("one partner", x.word(1, 39, 2), 1);
        Edge.due("the first of like ones", x.word(0, 0, 3), 0);
        Edge.due("its share", x.word(0, 0, 4), 2500);
        x = Edge.sized(0, 40, 1);
        Edge.due("40 partners", x.word(1, 0, 2), 40);
        Edge.due("one partner", x.word(0, 39, 2), 1);
        Edge.due("its share", x.word(0, 39, 4), 100000);
    }

    static void promise16_theGreatestShareOfLikeOnesTheLowest() {
        WordLinks x = Edge.with("a=x;b=y z;b a=z y");
        Edge.due("y and z alike", x.share(0, 1, 2), x.share(0, 1, 1));
        Edge.due("y is the lower one", x.word(0, 1, 3), 1);
        Edge.due("its share", x.word(0, 1, 4), 50000);
        Edge.due("z's: a and b alike", x.word(1, 2, 3), 0);
        x = Edge.with("a b=x y;b=y");
        x.rounds(0, 1);
        Edge.due("the greater one of a higher number", x.word(0, 1, 3), 1);
        Edge.due("its share", x.word(0, 1, 4), 75000);
        x.rounds(1, 1);
        Edge.due("by the way from its own side", x.word(1, 1, 3), 1);
        Edge.due("its share", x.word(1, 1, 4), x.share(1, 1, 1));
    }

    static void promise16_sharesThatAre0() {
        WordLinks x = Edge.with("a b=x y;a=x;b=y");
        Edge.due("none at first", x.word(0, 0, 5), 0);
        x.rounds(0, 30);
        x.rounds(0, 30);
        Edge.due("a's for y", x.share(0, 0, 1), 0);
        Edge.due("a's for x", x.share(0, 0, 0), 100000);
        Edge.due("one is 0", x.word(0, 0, 5), 1);
        Edge.due("no partner is no share", x.word(1, 0, 5), 0);
        x = Edge.with("a=x;b=y");
        Edge.due("no partner is no share", x.word(0, 0, 5), 0);
    }

    static void promise16_placesAmongTheSidesWordsByLetters() {
        WordLinks x = Edge.with("b ab abc a z az=m;abb=m z");
        Edge.due("b: behind a, ab, abb, abc, az", x.word(0, 0, 6), 5);
        Edge.due("ab: behind a", x.word(0, 1, 6), 1);
        Edge.due("abc: behind abb", x.word(0, 2, 6), 3);
        Edge.due("a: the first", x.word(0, 3, 6), 0);
        Edge.due("z: the last", x.word(0, 4, 6), 6);
        Edge.due("az", x.word(0, 5, 6), 4);
        Edge.due("abb", x.word(0, 6, 6), 2);
        Edge.due("of its own side alone", x.word(1, 1, 6), 1);
        x = Edge.sized(0, 40, 1);
        Edge.due("the last of 40", x.word(0, 39, 6), 39);
        Edge.due("the first of 40", x.word(0, 0, 6), 0);
        x = Edge.with("abcdefg abcdef=x");
        Edge.due("a beginning is ahead", x.word(0, 1, 6), 0);
        Edge.due("the longer one", x.word(0, 0, 6), 1);
    }

    // ---- promise 17: find

    static void promise17_nIs1To7AndSides0And1() {
        for (int n : new int[] {-7, -1, 0, 8, 9, 20, 21}) {
            Edge.leavesAll("find(0, " + n + ")", -1, x -> x.find(0, n));
            Edge.leavesAll("find(1, " + n + ")", -1, x -> x.find(1, n));
        }
        for (int odd : Edge.ODD) {
            Edge.leavesAll("find(0, " + odd + ")", -1, x -> x.find(0, odd));
            Edge.leavesAll("find(" + odd + ", 3)", -1, x -> x.find(odd, 3));
        }
        for (int side : NO_SIDE) {
            Edge.leavesAll("find(" + side + ", 3)", -1, x -> x.find(side, 3));
        }
        for (int n = 1; n <= 7; n++) {
            int bytes = n;
            Edge.leavesAll(() -> Edge.with(Edge.BOOKS), "an empty tape", -1, x -> x.find(0, bytes));
            String word = "abcdefg".substring(0, n);
            WordLinks x = Edge.with("abcdefg abcdef abcde abcd abc ab=m;a=" + word);
            Edge.due(word, Edge.find(x, 0, word), 7 - n);
            Edge.due("the tape is empty", x.count(2), 0);
            Edge.due(word + " of side 1", Edge.find(x, 1, word), 1);
        }
    }

    static void promise17_aWordThatThereIsNotEmptiesTheTape() {
        for (String text : new String[] {"neu", "da", "dass", "the", "a", "DAS", "da ", "d=s", " das", "hausaus", "`as"}) {
            Edge.leavesAllButTape(text, "find", -2, x -> x.find(0, text.length()));
        }
        Edge.leavesAllButTape("das", "find on side 1", -2, x -> x.find(1, 3));
        Edge.leavesAllButTape("" + (char) 0, "find", -2, x -> x.find(0, 1));
        Edge.leavesAllButTape("" + (char) ('d' + 128) + "as", "find", -2, x -> x.find(0, 3));
        Edge.leavesAllButTape(WordLinks::new, "a", "find", -2, x -> x.find(0, 1));
        Edge.leavesAllButTape("das", "find", 0, x -> x.find(0, 3));
    }

    static void promise17_theFirstAndTheLastWord() {
        WordLinks x = FULL.get();
        for (int side = 0; side < 2; side++) {
            Edge.due("word 0", Edge.find(x, side, Edge.named(0)), 0);
            Edge.due("word 39", Edge.find(x, side, Edge.named(39)), 39);
            Edge.due("no word 40", Edge.find(x, side, Edge.named(40)), -2);
        }
    }

    static void promise17_aWordThatWentIsNotFound() {
        WordLinks x = Edge.with("a=x;b=y");
        Edge.due("b", Edge.find(x, 0, "b"), 1);
        x.drop();
        Edge.due("b", Edge.find(x, 0, "b"), -2);
        Edge.due("y", Edge.find(x, 1, "y"), -2);
        Edge.due("a", Edge.find(x, 0, "a"), 0);
    }

    static void promise17_theFirstNBytesAlone() {
        WordLinks x = Edge.with("da das=x");
        Edge.put(x, "das haus");
        Edge.due("two bytes", x.find(0, 2), 0);
        Edge.put(x, "das haus");
        Edge.due("three bytes", x.find(0, 3), 1);
        Edge.due("all the tape is empty", x.count(2), 0);
    }

    // ---- promise 18: share

    static void promise18_waysAndWordsThatThereAre() {
        for (int odd : Edge.ODD) {
            Edge.leavesAll("share(" + odd + ", 0, 0)", -1, x -> x.share(odd, 0, 0));
            Edge.leavesAll("share(0, " + odd + ", 0)", -1, x -> x.share(0, odd, 0));
            Edge.leavesAll("share(0, 0, " + odd + ")", -1, x -> x.share(0, 0, odd));
        }
        for (int way : NO_SIDE) {
            Edge.leavesAll("share(" + way + ", 0, 0)", -1, x -> x.share(way, 0, 0));
        }
        for (int word : new int[] {-1, 4, 39, 40, 41}) {
            for (int way = 0; way < 2; way++) {
                int by = way;
                Edge.leavesAll("share(" + way + ", " + word + ", 0)", -1, x -> x.share(by, word, 0));
                Edge.leavesAll("share(" + way + ", 0, " + word + ")", -1, x -> x.share(by, 0, word));
            }
        }
        Edge.leavesAll("no partner: das, a", -2, x -> x.share(0, 0, 3));
        Edge.leavesAll("no partner: a, das", -2, x -> x.share(1, 3, 0));
        WordLinks x = Edge.with("a=x y z");
        Edge.due("from 0 to 2", x.share(0, 0, 2), 33333);
        Edge.due("from 2 to 0", x.share(1, 2, 0), 100000);
        Edge.due("no word 2 of side 0", x.share(0, 2, 0), -1);
        Edge.due("no word 2 of side 0, back", x.share(1, 0, 2), -1);
        Edge.due("no words", new WordLinks().share(0, 0, 0), -1);
    }

    static void promise18_beforeARoundTheyAreEven() {
        WordLinks x = Edge.sized(0, 1, 40);
        for (int v = 0; v < 40; v++) {
            Edge.due("of 40", x.share(0, 0, v), 2500);
            Edge.due("alone", x.share(1, v, 0), 100000);
        }
        x = Edge.sized(0, 39, 1);
        for (int u = 0; u < 39; u++) {
            Edge.due("of 39: 2564 and 4 left", x.share(1, 0, u), u < 4 ? 2565 : 2564);
        }
        x = Edge.with("a=t u v w x y;a=n");
        for (int v = 0; v < 7; v++) {
            Edge.due("of 7: 14285 and 5 left", x.share(0, 0, v), v < 5 ? 14286 : 14285);
        }
        x = Edge.with("a=x y z");
        Edge.due("of 3: the first gets what is left", x.share(0, 0, 0), 33334);
        Edge.due("then none", x.share(0, 0, 1), 33333);
        x = Edge.with("b=x y;a=z y x");
        Edge.due("by numbers, not as they are met: x", x.share(0, 1, 0), 33334);
        Edge.due("z", x.share(0, 1, 2), 33333);
        x = Edge.with("a a a=x x y");
        Edge.due("a partner that is met often counts once", x.share(0, 0, 0), 50000);
    }

    static void promise18_aShareOf0IsNoMissingPartner() {
        WordLinks x = Edge.with("a b=x y;a=x;b=y");
        x.rounds(0, 30);
        x.rounds(0, 30);
        Edge.due("0", x.share(0, 0, 1), 0);
        Edge.due("not 0", x.share(1, 1, 0) > 0, true);
    }

    // ---- promise 19: best

    static void promise19_waysWordsKAndWhatThatThereAre() {
        for (int odd : Edge.ODD) {
            Edge.leavesAll("best(" + odd + ", 0, 0, 0)", -1, x -> x.best(odd, 0, 0, 0));
            Edge.leavesAll("best(0, " + odd + ", 0, 0)", -1, x -> x.best(0, odd, 0, 0));
            Edge.leavesAll("best(0, 0, 0, " + odd + ")", -1, x -> x.best(0, 0, 0, odd));
            Edge.leavesAll("best(0, 0, " + odd + ", 0)", odd < 0 ? -1 : -4, x -> x.best(0, 0, odd, 0));
        }
        for (int way : NO_SIDE) {
            Edge.leavesAll("best(" + way + ", 0, 0, 0)", -1, x -> x.best(way, 0, 0, 0));
            Edge.leavesAll("best(0, 0, 0, " + way + ")", -1, x -> x.best(0, 0, 0, way));
        }
        for (int word : new int[] {-1, 4, 40}) {
            Edge.leavesAll("best(0, " + word + ", 0, 0)", -1, x -> x.best(0, word, 0, 0));
            Edge.leavesAll("best(1, " + word + ", 0, 0)", -1, x -> x.best(1, word, 0, 0));
        }
        Edge.leavesAll("k of -1", -1, x -> x.best(0, 0, -1, 0));
        Edge.leavesAll("k of 3, partners 0 to 2", -4, x -> x.best(0, 0, 3, 0));
        Edge.leavesAll("k of 3, its share", -4, x -> x.best(0, 0, 3, 1));
        Edge.due("no words", new WordLinks().best(0, 0, 0, 0), -1);
    }

    static void promise19_noneComesAheadOfNotSoMany() {
        Edge.leavesAll("no such what", -1, x -> x.best(0, 0, 9, 2));
        Edge.leavesAll("no such what", -1, x -> x.best(0, 0, 9, -1));
        Edge.leavesAll("no such word", -1, x -> x.best(0, 9, 9, 0));
        Edge.leavesAll("no such way", -1, x -> x.best(2, 0, 9, 0));
    }

    static void promise19_ofLikeSharesTheLowestFirst() {
        WordLinks x = Edge.sized(0, 1, 40);
        for (int k = 0; k < 40; k++) {
            Edge.due("partner " + k, x.best(0, 0, k, 0), k);
        }
        Edge.due("its share", x.best(0, 0, 39, 1), 2500);
        Edge.due("no partner 40", x.best(0, 0, 40, 0), -4);
        Edge.due("one partner alone", x.best(1, 39, 0, 0), 0);
        Edge.due("no second one", x.best(1, 39, 1, 0), -4);
    }

    static void promise19_theGreatestFirstDownTo0() {
        WordLinks x = Edge.with("a b=x y;a=x;b=y");
        x.rounds(0, 30);
        x.rounds(0, 30);
        Edge.due("b's first", x.best(0, 1, 0, 0), 1);
        Edge.due("its share", x.best(0, 1, 0, 1), 100000);
        Edge.due("b's last", x.best(0, 1, 1, 0), 0);
        Edge.due("its share", x.best(0, 1, 1, 1), 0);
        Edge.due("no third", x.best(0, 1, 2, 1), -4);
    }

    // ---- promise 20: at

    static void promise20_pairsSidesAndPlacesThatThereAre() {
        for (int odd : Edge.ODD) {
            Edge.leavesAll("at(" + odd + ", 0, 0)", -1, x -> x.at(odd, 0, 0));
            Edge.leavesAll("at(0, " + odd + ", 0)", -1, x -> x.at(0, odd, 0));
            Edge.leavesAll("at(0, 0, " + odd + ")", -1, x -> x.at(0, 0, odd));
        }
        for (int pair : new int[] {-1, 3, 4, 24}) {
            Edge.leavesAll("at(" + pair + ", 0, 0)", -1, x -> x.at(pair, 0, 0));
        }
        for (int side : NO_SIDE) {
            Edge.leavesAll("at(0, " + side + ", 0)", -1, x -> x.at(0, side, 0));
        }
        for (int place : new int[] {-1, 6, 7}) {
            Edge.leavesAll("at(0, 0, " + place + ")", -1, x -> x.at(0, 0, place));
        }
        for (int place = 2; place < 6; place++) {
            int at = place;
            Edge.leavesAll("at(0, 0, " + place + ")", -2, x -> x.at(0, 0, at));
            Edge.leavesAll("at(2, 1, " + place + ")", -2, x -> x.at(2, 1, at));
        }
        Edge.leavesAll("the last place", 2, x -> x.at(2, 1, 1));
        Edge.due("no pairs", new WordLinks().at(0, 0, 0), -1);
    }

    static void promise20_noneComesAheadOfNotSoMany() {
        Edge.leavesAll("no such pair", -1, x -> x.at(3, 0, 5));
        Edge.leavesAll("no such side", -1, x -> x.at(0, 2, 5));
    }

    static void promise20_sentencesOf1And6Words() {
        WordLinks x = Edge.with("a=b c d e f g");
        Edge.due("the only one", x.at(0, 0, 0), 0);
        Edge.due("no second one", x.at(0, 0, 1), -2);
        Edge.due("the sixth", x.at(0, 1, 5), 5);
        Edge.due("no seventh", x.at(0, 1, 6), -1);
        x = FULL.get();
        Edge.due("pair 23", x.at(23, 1, 0), 0);
        Edge.due("no pair 24", x.at(24, 1, 0), -1);
        Edge.due("word 39", x.at(6, 0, 3), 39);
    }

    // ---- promise 21: fit

    static void promise21_waysAndPairsThatThereAre() {
        for (int odd : Edge.ODD) {
            Edge.leavesAll("fit(" + odd + ", 0)", -2, x -> x.fit(odd, 0));
            Edge.leavesAll("fit(" + odd + ", -1)", -2, x -> x.fit(odd, -1));
            Edge.leavesAll("fit(0, " + odd + ")", -2, x -> x.fit(0, odd));
        }
        for (int way : NO_SIDE) {
            Edge.leavesAll("fit(" + way + ", 0)", -2, x -> x.fit(way, 0));
            Edge.leavesAll("fit(" + way + ", -1)", -2, x -> x.fit(way, -1));
        }
        for (int pair : new int[] {-3, -2, 3, 4, 24}) {
            Edge.leavesAll("fit(0, " + pair + ")", -2, x -> x.fit(0, pair));
            Edge.leavesAll("fit(1, " + pair + ")", -2, x -> x.fit(1, pair));
        }
        WordLinks x = new WordLinks();
        Edge.due("all of none", x.fit(0, -1), 0);
        Edge.due("no pair 0", x.fit(0, 0), -2);
    }

    static void promise21_theGreatestSum() {
        WordLinks x = new WordLinks();
        for (int k = 0; k < 12; k++) {
            Edge.pairs(x, "a a a a a a=x x x x x x;a a a a a a=x x x x x x");
        }
        Edge.due("36 of 100000", x.fit(0, 23), 3600000);
        Edge.due("all", x.fit(0, -1), 86400000);
        Edge.due("all, back", x.fit(1, -1), 86400000);
        Edge.due("no pair 24", x.fit(0, 24), -2);
    }

    static void promise21_eachPlaceWithEachOne() {
        WordLinks x = Edge.with("a=x;a b b=x y");
        Edge.due("one with one", x.fit(0, 0), 50000);
        Edge.due("a 50000 and 50000, b twice the same", x.fit(0, 1), 300000);
        Edge.due("all", x.fit(0, -1), 350000);
        Edge.due("back: x of a and b", x.fit(1, 0), 50000);
    }

    // ---- promise 22: part

    static void promise22_waysPairsAndPlacesThatThereAre() {
        for (int odd : Edge.ODD) {
            Edge.leavesAll("part(" + odd + ", 0, 0, 0)", -1, x -> x.part(odd, 0, 0, 0));
            Edge.leavesAll("part(0, " + odd + ", 0, 0)", -1, x -> x.part(0, odd, 0, 0));
            Edge.leavesAll("part(0, 0, " + odd + ", 0)", -1, x -> x.part(0, 0, odd, 0));
            Edge.leavesAll("part(0, 0, 0, " + odd + ")", -1, x -> x.part(0, 0, 0, odd));
        }
        for (int way : NO_SIDE) {
            Edge.leavesAll("part(" + way + ", 0, 0, 0)", -1, x -> x.part(way, 0, 0, 0));
        }
        for (int pair : new int[] {-1, 3, 24}) {
            Edge.leavesAll("part(0, " + pair + ", 0, 0)", -1, x -> x.part(0, pair, 0, 0));
        }
        for (int place : new int[] {-1, 2, 5, 6}) {
            Edge.leavesAll("part(0, 0, " + place + ", 0)", -1, x -> x.part(0, 0, place, 0));
            Edge.leavesAll("part(1, 0, 0, " + place + ")", -1, x -> x.part(1, 0, 0, place));
        }
        Edge.due("no pairs", new WordLinks().part(0, 0, 0, 0), -1);
        WordLinks x = Edge.with("a b c d e f=x");
        Edge.due("forth: i of side 0", x.part(0, 0, 5, 0), 16666);
        Edge.due("forth: j of side 1", x.part(0, 0, 0, 1), -1);
        Edge.due("back: j of side 0", x.part(1, 0, 0, 5), 100000);
        Edge.due("back: i of side 1", x.part(1, 0, 1, 0), -1);
    }

    static void promise22_nothingIsLeftOver() {
        WordLinks x = Edge.with("a b c d e f=x");
        int[] want = {16667, 16667, 16667, 16667, 16666, 16666};
        for (int i = 0; i < 6; i++) {
            Edge.due("of like rests the first", x.part(0, 0, i, 0), want[i]);
        }
        x = Edge.with("a=x");
        Edge.due("all", x.part(0, 0, 0, 0), 100000);
        // 100000 and 50000: 66666 and the greater rest, 33333
        x = Edge.with("b a=x y;a=x;a=x;b=z");
        Edge.due("b 33333, a 50000: 40000 and 60000", x.part(0, 0, 0, 0), 40000);
        Edge.due("a", x.part(0, 0, 1, 0), 60000);
        x = Edge.with("a b=x;b=y");
        Edge.due("2 to 1", x.part(0, 0, 0, 0), 66667);
        Edge.due("1 to 2", x.part(0, 0, 1, 0), 33333);
        x = Edge.with("b a=x;b=y");
        Edge.due("1 to 2: the second rest is greater", x.part(0, 0, 0, 0), 33333);
        Edge.due("2 to 1", x.part(0, 0, 1, 0), 66667);
    }

    static void promise22_worthThatIsAll0CountsAs1Each() {
        WordLinks x = RoundEdges.worthless();
        Edge.due("b's share for x", x.share(0, 0, 0), 0);
        Edge.due("a's near share", x.near(0, 4), 0);
        Edge.due("b for x", x.part(0, 0, 0, 0), 50000);
        Edge.due("a for x", x.part(0, 0, 1, 0), 50000);
        x.placed(false);
        Edge.due("b for x, not placed", x.part(0, 0, 0, 0), 0);
        Edge.due("a for x, not placed", x.part(0, 0, 1, 0), 100000);
    }

    static void promise22_askingChangesNothing() {
        Edge.leavesAll("both parts of a place", 100000, x -> x.part(0, 2, 0, 1) + x.part(0, 2, 1, 1));
        Edge.leavesAll("both parts of a place, back", 100000, x -> x.part(1, 2, 0, 1) + x.part(1, 2, 1, 1));
    }

    // ---- promise 23: counted

    static void promise23_waysAndWordsThatThereAre() {
        for (int odd : Edge.ODD) {
            Edge.leavesAll("counted(" + odd + ", 0, 0)", -1, x -> x.counted(odd, 0, 0));
            Edge.leavesAll("counted(0, " + odd + ", 0)", -1, x -> x.counted(0, odd, 0));
            Edge.leavesAll("counted(0, 0, " + odd + ")", -1, x -> x.counted(0, 0, odd));
        }
        for (int way : NO_SIDE) {
            Edge.leavesAll("counted(" + way + ", 0, 0)", -1, x -> x.counted(way, 0, 0));
        }
        for (int word : new int[] {-1, 4, 40}) {
            Edge.leavesAll("counted(0, " + word + ", 0)", -1, x -> x.counted(0, word, 0));
            Edge.leavesAll("counted(0, 0, " + word + ")", -1, x -> x.counted(0, 0, word));
            Edge.leavesAll("counted(1, " + word + ", 0)", -1, x -> x.counted(1, word, 0));
            Edge.leavesAll("counted(1, 0, " + word + ")", -1, x -> x.counted(1, 0, word));
        }
        Edge.leavesAll("no partner", -2, x -> x.counted(0, 0, 3));
        Edge.leavesAll("no partner, back", -2, x -> x.counted(1, 3, 0));
        Edge.due("no words", new WordLinks().counted(0, 0, 0), -1);
    }

    static void promise23_from0To14400000() {
        WordLinks x = new WordLinks();
        for (int k = 0; k < 12; k++) {
            Edge.pairs(x, "a a a a a a=x x x x x x;a a a a a a=x x x x x x");
        }
        Edge.due("144 places", x.counted(0, 0, 0), 14400000);
        Edge.due("144 places, back", x.counted(1, 0, 0), 14400000);
        Edge.due("nothing changes by it", x.rounds(0, 1), 0);
        x = Edge.with("a b=x y;a=x;b=y");
        x.rounds(0, 30);
        x.rounds(0, 30);
        Edge.due("0 is no missing partner", x.counted(0, 0, 1), 0);
        Edge.due("all of x", x.counted(0, 0, 0), 200000);
    }

    static void promise23_askingChangesNothing() {
        Edge.leavesAll("counted", Edge.scene().counted(0, 0, 0), x -> x.counted(0, 0, 0));
        WordLinks x = Edge.with("a b=x y;a=x");
        Edge.due("ahead of a round", x.counted(0, 0, 0), 150000);
        Edge.due("again", x.counted(0, 0, 0), 150000);
        x.rounds(0, 1);
        Edge.due("behind it: 60000 and 100000", x.counted(0, 0, 0), 160000);
    }
}

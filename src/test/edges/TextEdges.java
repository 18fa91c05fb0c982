/** Edges of promises 1 to 7: the tape, texts of pairs, sheets, how they are matched and joined, what is dropped. */
final class TextEdges {
    private static final int[] NO_TEXT = {Integer.MIN_VALUE, -200, -1, 0, 201, 202, 240, 456, Integer.MAX_VALUE};
    private static final String SEVEN = "abcdefg";

    private TextEdges() {
    }

    // ---- promise 1: a new object

    static void promise01_aNewObjectHasNothing() {
        WordLinks x = new WordLinks();
        for (int what = 0; what < 4; what++) {
            Edge.due("count", x.count(what), 0);
        }
        for (int side = 0; side < 2; side++) {
            Edge.due("words", x.side(side, 0), 0);
            Edge.due("places", x.side(side, 1), 0);
            Edge.due("word", x.word(side, 0, 0), -1);
            Edge.due("fit", x.fit(side, -1), 0);
            Edge.due("fit", x.fit(side, 0), -2);
            for (int k = 0; k < 8; k++) {
                Edge.due("near", x.near(side, k), 12500);
            }
        }
        for (int kind = 0; kind < 6; kind++) {
            Edge.due("linked", x.linked(kind, -1), 0);
            Edge.due("phrases", x.phrases(kind), 0);
            Edge.due("agree", x.agree(kind), 0);
            Edge.due("best rounds", x.bestRounds(kind), 0);
            Edge.due("partings", x.partings(kind, 0), -1);
        }
        Edge.due("twins", x.twins(0), 0);
        Edge.due("least", x.least(0), 0);
        Edge.due("not by letters", x.byLetters(false), false);
        Edge.due("not placed", x.placed(false), false);
        Edge.due("no sheets", x.matched(0), -2);
        Edge.due("no sheets", x.joins(), -2);
        Edge.due("nothing kept", x.undo(), false);
        Edge.due("nothing to drop", x.drop(), -1);
        Edge.due("keep", x.keep(), 0);
    }

    static void promise01_objectsShareNoMemory() {
        WordLinks x = Edge.scene();
        WordLinks y = new WordLinks();
        Edge.due("pairs of another one", y.count(0), 0);
        Edge.due("tape of another one", y.count(2), 0);
        Edge.due("least of another one", y.count(1), 0);
        Edge.due("kept of another one", y.undo(), false);
        Edge.due("sheets of another one", y.joins(), -2);
        Edge.pairs(y, "z=z");
        y.rounds(0, 3);
        y.keep();
        Edge.due("pairs", x.count(0), 3);
        Edge.due("tape", x.count(2), 20);
        Edge.due("letter", x.word(0, 0, 10), 'd');
        Edge.due("undo", x.undo(), true);
        Edge.due("pairs kept", x.count(0), 2);
    }

    static void promise01_anObjectIsUsedFor512Calls() {
        WordLinks x = new WordLinks();
        x.feed('a' << 24 | '=' << 16 | 'b' << 8, 0, 0, 0, 0);
        for (int call = 2; call < 511; call++) {
            x.rounds(call % 2, 1);
        }
        Edge.due("call 511", x.pairs(3), 1);
        Edge.due("call 512", x.share(0, 0, 0), 100000);
    }

    static void promise01_noneIsMinusOne() {
        Edge.due("NONE", WordLinks.NONE, -1);
    }

    // ---- promise 2: feed

    static void promise02_theTapeTakes240BytesAndNoMore() {
        WordLinks x = new WordLinks();
        for (int k = 1; k <= 12; k++) {
            Edge.due("feed", x.feed(0, 0, 0, 0, 0), 20 * k);
        }
        Edge.due("byte 241", x.feed(0, 0, 0, 0, 0), -1);
        Edge.due("bytes", x.count(2), 240);
        Edge.due("once more", x.feed(0, 0, 0, 0, 0), -1);
    }

    /** 200 bytes that are pairs and 40 more, so that the tape is full. */
    private static WordLinks fullTape() {
        WordLinks x = new WordLinks();
        Edge.put(x, Edge.times("abcdef abcdef abcdef=ghi", 8, ";") + "j" + Edge.times("z", 40, ""));
        return x;
    }

    static void promise02_aRefusedFeedLeavesTheTape() {
        WordLinks x = fullTape();
        Edge.due("feed", x.feed(-1, -1, -1, -1, -1), -1);
        Edge.due("bytes", x.count(2), 240);
        Edge.due("the text that was there", x.pairs(200), 8);
        Edge.due("its first letter", x.word(0, 0, 10), 'a');
        Edge.due("its last letter", x.word(1, 1, 13), 'j');
        Edge.leavesAll(TextEdges::fullTape, "feed", -1, y -> y.feed(-1, -1, -1, -1, -1));
    }

    static void promise02_theHighestByteOfEachIntIsFirst() {
        WordLinks x = new WordLinks();
        Edge.due("bytes", x.feed(0x61626364, 0x65666720, 0x68696a6b, 0x6c6d3d6e, 0x6f707172), 20);
        Edge.due("pairs of \"abcdefg hijklm=nopqr\"", x.pairs(20), 1);
        for (int k = 0; k < 7; k++) {
            Edge.due("letter of the first word", x.word(0, 0, 10 + k), 'a' + k);
        }
        for (int k = 0; k < 6; k++) {
            Edge.due("letter of the second word", x.word(0, 1, 10 + k), 'h' + k);
        }
        for (int k = 0; k < 5; k++) {
            Edge.due("letter of the third word", x.word(1, 0, 10 + k), 'n' + k);
        }
    }

    static void promise02_bytesAreFrom0To255() {
        WordLinks x = Edge.onePair(6, 6);
        x.feed(0x00010203, 0x04050000, 0, 0, 0);
        Edge.due("0 to 5", x.check(6), -1);
        x.least(100000);
        x.feed(-1, 0xffff0000, 0, 0, 0);
        Edge.due("255 six times", x.check(6), -1);
        x.feed(0xffff7fff, 0, 0, 0, 0);
        Edge.due("127 is not 255", x.check(6), 2);
        x.feed(0xfffffeff, 0, 0, 0, 0);
        Edge.due("254 is not 255", x.check(6), 2);
        x.feed(Integer.MAX_VALUE, 0, 0, 0, 0);
        Edge.due("the highest int begins with 127", x.check(4), 0);
        x.feed(Integer.MIN_VALUE, 0, 0, 0, 0);
        Edge.due("the lowest int begins with 128", x.check(4), 0);
    }

    static void promise02_anEmptiedTapeIsFedFromItsBeginning() {
        WordLinks x = new WordLinks();
        Edge.put(x, "zzzz");
        Edge.emptyTape(x);
        Edge.due("bytes", x.feed('a' << 24 | '=' << 16 | 'b' << 8, 0, 0, 0, 0), 20);
        Edge.due("pairs", x.pairs(3), 1);
        for (int k = 1; k <= 12; k++) {
            Edge.due("the whole tape again", x.feed(0, 0, 0, 0, 0), 20 * k);
        }
    }

    // ---- promise 3: pairs

    static void promise03_nIs1To200() {
        for (int n : NO_TEXT) {
            Edge.leavesAll("pairs(" + n + ")", -1, x -> x.pairs(n));
            Edge.leavesAll(TextEdges::fullTape, "pairs(" + n + ")", -1, x -> x.pairs(n));
        }
        WordLinks x = new WordLinks();
        Edge.put(x, "a");
        Edge.due("n of 1", x.pairs(1), -1001);
        x = fullTape();
        Edge.due("n of 200", x.pairs(200), 8);
        String text = Edge.times("abcdef abcdef abcdef=ghi", 8, ";");
        Edge.due("a fault at the last of 200 bytes", Edge.pairs(x, text + "="), -1199);
        Edge.due("a fault at the end of 200 bytes", Edge.pairs(x, text + ";"), -1200);
    }

    static void promise03_theTapeMustHaveNBytes() {
        Edge.leavesAll("pairs(21) with 20 bytes", -1, x -> x.pairs(21));
        WordLinks x = Edge.scene();
        Edge.due("pairs(20) with 20 bytes", x.pairs(20), 4);
        Edge.leavesAll(WordLinks::new, "pairs(1) with an empty tape", -1, y -> y.pairs(1));
    }

    static void promise03_onlyTheFirstNBytesAreRead() {
        WordLinks x = new WordLinks();
        Edge.put(x, "a=bcd;=;?");
        Edge.due("pairs", x.pairs(4), 1);
        Edge.due("two letters", x.word(1, 0, 0), 2);
        Edge.due("all the tape is empty", x.count(2), 0);
        Edge.due("nothing is left", x.pairs(1), -1);
    }

    static void promise03_theTapeIsEmptyBehindFaults() {
        String twelve = Edge.times("a=b", 12, ";");
        Edge.leavesAllButTape("neu=new;x", "pairs", -1009, x -> x.pairs(9));
        Edge.leavesAllButTape("neu=abcdefgh", "pairs", -2011, x -> x.pairs(12));
        Edge.leavesAllButTape(twelve + ";", "pairs", -4048, x -> x.pairs(48));
        Edge.leavesAllButTape("a b c d e f g=x", "pairs", -5012, x -> x.pairs(15));
    }

    private static void fault(String text, int want) {
        WordLinks x = new WordLinks();
        Edge.due("pairs of \"" + text + "\"", Edge.pairs(x, text), want);
        Edge.due("no pair came", x.count(0), Math.max(want, 0));
        Edge.due("the tape is empty", x.count(2), 0);
    }

    static void promise03_wordsHaveOneToSevenLetters() {
        fault("=b", -1000);
        fault("a=", -1002);
        fault("a=b", 1);
        fault(SEVEN + "=" + SEVEN, 1);
        fault(SEVEN + "h=b", -2007);
        fault("a=" + SEVEN + "h", -2009);
        fault("a " + SEVEN + "h=b", -2009);
        fault("a=b;c=d " + SEVEN + "hi", -2015);
        fault("a b c d e " + SEVEN + "=" + SEVEN, 1);
        fault("a b c d e " + SEVEN + "h=b", -2017);
    }

    static void promise03_lettersAreSmall() {
        fault("a=z", 1);
        for (char sign : new char[] {0, 31, '`', '{', 'A', 'Z', '0', '-', '\n', 127, 128, 'a' + 128, 'z' + 128, 255}) {
            fault(sign + "=b", -1000);
            fault("a" + sign + "=b", -1001);
            fault("a=" + sign, -1002);
            fault("a=b" + sign, -1003);
        }
    }

    static void promise03_sentencesHaveOneToSixWords() {
        fault("a=b c d e f g", 1);
        fault("b c d e f g=a", 1);
        fault("b c d e f g h=a", -5012);
        fault("a=b c d e f g h", -5014);
        fault("a=b c d e f g " + SEVEN + "h", -5014);
        fault("b c d e f g " + SEVEN + "h i=a", -5012);
        fault("a=b;a b c d e f=a;a b c d e f g", -5030);
        fault("b c d e f g =a", -1012);
        fault("b c d e f g ", -1012);
        fault("a=b c d e f g ", -1014);
        fault("a=b c d e f g  h", -1014);
    }

    static void promise03_oneBlankStandsBetweenWords() {
        fault("a b=c d", 1);
        fault(" a=b", -1000);
        fault("a  b=c", -1002);
        fault("a =b", -1002);
        fault("a= b", -1002);
        fault("a=b  c", -1004);
        fault("a=b ;c=d", -1004);
        fault("a=b; c=d", -1004);
    }

    static void promise03_theEndIsAFaultWhereMoreMustCome() {
        fault("a", -1001);
        fault("a ", -1002);
        fault("a=", -1002);
        fault("a=b ", -1004);
        fault("a=b;", -1004);
        fault("a=b;c", -1005);
        fault("a=b;c=", -1006);
        fault("a=b;c=d", 2);
    }

    static void promise03_eachClauseHasOneEqualsSign() {
        fault("a=b=c", -1003);
        fault("a=b;c;d=e", -1005);
        fault("a;b=c", -1001);
        fault("=", -1000);
        fault(";", -1000);
        fault("a=;b=c", -1002);
        fault("a=b;;c=d", -1004);
    }

    static void promise03_aTextHasTwelveClausesAtMost() {
        String eleven = Edge.times("a=b", 11, ";");
        String twelve = Edge.times("a=b", 12, ";");
        fault(eleven, 11);
        fault(eleven + ";", -1044);
        fault(twelve, 12);
        fault(twelve + ";a=b", -4048);
        fault(twelve + ";abcdefgh=b", -4048);
    }

    static void promise03_a13thClauseIsAheadOfWhatCantStandThere() {
        String twelve = Edge.times("a=b", 12, ";");
        fault(twelve + ";", -4048);
        fault(twelve + ";;", -4048);
        fault(twelve + ";=", -4048);
        fault(twelve + "; ", -4048);
        fault(twelve + ";?", -4048);
        fault(twelve + ",a=b", -1047);
        fault(twelve + " ;", -1048);
        fault(twelve + "=;", -1047);
    }

    static void promise03_theFirstFaultFromTheLeftIsTold() {
        fault("a1=" + SEVEN + "h", -1001);
        fault(SEVEN + "h=1", -2007);
        fault(SEVEN + "h i j k l m n=b", -2007);
        fault("a b c d e f g1", -5012);
        fault("a b c d e f g=" + Edge.times("a=b", 13, ";"), -5012);
        fault("1" + Edge.times("a=b", 13, ";"), -1000);
    }

    static void promise03_24PairsAtMost() {
        String eleven = Edge.times("aa=aa", 11, ";");
        WordLinks x = Edge.sized(12, 1, 1);
        Edge.due("23 pairs", Edge.pairs(x, eleven), 23);
        Edge.due("25 pairs", Edge.pairs(x, "aa=aa;aa=aa"), -3);
        Edge.due("24 pairs", Edge.pairs(x, "aa=aa"), 24);
        Edge.due("the last one", x.at(23, 1, 0), 0);
        Edge.due("no pair behind it", x.at(24, 1, 0), -1);
        Edge.due("a 25th pair", Edge.pairs(x, "aa=aa"), -3);
        x.drop();
        Edge.due("room again", Edge.pairs(x, "aa=aa"), 24);
        x = Edge.sized(12, 1, 1);
        Edge.due("24 pairs at once", Edge.pairs(x, eleven + ";aa=aa"), 24);
        Edge.leavesAllButTape(() -> Edge.sized(24, 4, 3), "aa=aa", "pairs", -3, y -> y.pairs(5));
        Edge.leavesAllButTape(() -> Edge.sized(23, 4, 3), "aa=aa;zz=zz", "pairs", -3, y -> y.pairs(11));
        Edge.leavesAllButTape(() -> Edge.sized(13, 4, 3), eleven + ";bb=bb", "pairs", -3, y -> y.pairs(71));
    }

    static void promise03_40WordsASideAtMost() {
        for (int side = 0; side < 2; side++) {
            boolean isFirst = side == 0;
            WordLinks x = Edge.sized(0, isFirst ? 39 : 1, isFirst ? 1 : 39);
            int pairs = x.count(0);
            Edge.due("39 words", x.side(side, 0), 39);
            Edge.due("41 words", Edge.pairs(x, isFirst ? "zy zz=aa" : "aa=zy zz"), -4);
            Edge.due("39 words", x.side(side, 0), 39);
            Edge.due("40 words", Edge.pairs(x, isFirst ? "zz zz=aa" : "aa=zz zz"), pairs + 1);
            Edge.due("40 words", x.side(side, 0), 40);
            Edge.due("the last one", x.word(side, 39, 10), 'z');
            Edge.due("no word behind it", x.word(side, 40, 10), -1);
            Edge.due("one of the other side", x.side(1 - side, 0), 1);
            Edge.due("a 41st word", Edge.pairs(x, isFirst ? "zy=aa" : "aa=zy"), -4);
            Edge.due("known words", Edge.pairs(x, isFirst ? "zz=aa" : "aa=zz"), pairs + 2);
            x.drop();
            x.drop();
            Edge.due("room again", Edge.pairs(x, isFirst ? "zy=aa" : "aa=zy"), pairs + 1);
        }
        WordLinks x = Edge.sized(0, 39, 39);
        Edge.due("40 words on both sides", Edge.pairs(x, "zy=zz"), 8);
        Edge.leavesAllButTape(() -> Edge.sized(0, 40, 3), "aa zz=aa", "pairs", -4, y -> y.pairs(8));
        Edge.leavesAllButTape(() -> Edge.sized(0, 3, 40), "aa=aa zz", "pairs", -4, y -> y.pairs(8));
        Edge.leavesAllButTape(() -> Edge.sized(0, 39, 3), "aa zz=zz;aa zy=zy", "pairs", -4, y -> y.pairs(17));
        Edge.leavesAllButTape(() -> Edge.sized(0, 3, 39), "zz=aa zz;zy=zy", "pairs", -4, y -> y.pairs(14));
    }

    static void promise03_pairsComeAllOrNone() {
        Edge.leavesAllButTape("neu=new;alt=old;", "pairs", -1016, x -> x.pairs(16));
        WordLinks x = Edge.sized(22, 1, 1);
        Edge.due("two fit, three don't", Edge.pairs(x, "aa=aa;bb=bb;cc=cc"), -3);
        Edge.due("pairs", x.count(0), 22);
        Edge.due("words", x.side(0, 0), 1);
        x = Edge.sized(0, 39, 1);
        Edge.due("the first fits, the second doesn't", Edge.pairs(x, "zz=zz;zy=zy"), -4);
        Edge.due("words", x.side(0, 0), 39);
        Edge.due("words", x.side(1, 0), 1);
        Edge.due("find", Edge.find(x, 0, "zz"), -2);
        Edge.due("find", Edge.find(x, 1, "zz"), -2);
    }

    static void promise03_pairsComeBehindThoseThereAre() {
        WordLinks x = Edge.with("a=b");
        Edge.due("pairs", Edge.pairs(x, "c=d;a=e"), 3);
        Edge.due("the first", x.at(0, 0, 0), 0);
        Edge.due("words by how they come first", x.at(1, 0, 0), 1);
        Edge.due("a known word", x.at(2, 0, 0), 0);
        Edge.due("a new one", x.at(2, 1, 0), 2);
    }

    static void promise03_wordsOfOneSideAreNotOfTheOther() {
        WordLinks x = Edge.with("a b=b");
        Edge.due("words", x.side(0, 0), 2);
        Edge.due("words", x.side(1, 0), 1);
        Edge.due("b of side 0", Edge.find(x, 0, "b"), 1);
        Edge.due("b of side 1", Edge.find(x, 1, "b"), 0);
    }

    static void promise03_sharesAreBegunWhenPairsCome() {
        WordLinks x = Edge.with("a b=x y;b=y");
        x.placed(true);
        x.rounds(0, 3);
        x.rounds(1, 3);
        Edge.due("not even", x.share(0, 1, 0) == 50000, false);
        Edge.due("near", x.near(1, 0) == 12500, false);
        Edge.pairs(x, "c=z");
        for (int u = 0; u < 2; u++) {
            Edge.due("even", x.share(0, u, 0), 50000);
            Edge.due("even", x.share(1, u, 0), 50000);
        }
        for (int way = 0; way < 2; way++) {
            for (int k = 0; k < 8; k++) {
                Edge.due("near", x.near(way, k), 12500);
            }
        }
        Edge.due("placed stays", x.placed(true), false);
    }

    static void promise03_aFaultIsToldWhereThereIsNoRoomEither() {
        WordLinks x = Edge.sized(24, 40, 40);
        Edge.due("a fault", Edge.pairs(x, "zz=zz;"), -1006);
        Edge.due("no fault", Edge.pairs(x, "aa=aa"), -3);
    }

    // ---- promise 4: sheets

    private static void sheetFault(String text, int want) {
        WordLinks x = new WordLinks();
        Edge.due("sheets of \"" + text + "\"", Edge.sheets(x, text), want);
        Edge.due("the tape is empty", x.count(2), 0);
        Edge.due("sheets there", x.matched(0) == -2, want < 0);
        Edge.due("no words come of it", x.side(0, 0) + x.side(1, 0), 0);
    }

    static void promise04_nIs1To200() {
        for (int n : NO_TEXT) {
            Edge.leavesAll("sheets(" + n + ")", -1, x -> x.sheets(n));
            Edge.leavesAll(TextEdges::fullTape, "sheets(" + n + ")", -1, x -> x.sheets(n));
        }
        WordLinks x = new WordLinks();
        Edge.put(x, "a");
        Edge.due("n of 1", x.sheets(1), -1001);
        String six = Edge.times(SEVEN, 6, " ");
        String text = six + "," + six + "|" + six + "," + six + ",a a a";
        Edge.put(x, text + " abcdefg");
        Edge.due("201 bytes", x.sheets(201), -1);
        Edge.due("200 bytes", x.sheets(200), 5);
        Edge.due("a fault at the last of 200 bytes", Edge.sheets(x, text + " a|"), -1199);
        Edge.due("a fault at the end of 200 bytes", Edge.sheets(x, text + " a,"), -1200);
    }

    static void promise04_theTapeMustHaveNBytes() {
        Edge.leavesAll("sheets(21) with 20 bytes", -1, x -> x.sheets(21));
        Edge.leavesAll(WordLinks::new, "sheets(1) with an empty tape", -1, x -> x.sheets(1));
        WordLinks x = new WordLinks();
        Edge.put(x, "abc def,ghi|jkl,mnop");
        Edge.due("sheets(20) with 20 bytes", x.sheets(20), 4);
        Edge.due("the tape is empty", x.count(2), 0);
        Edge.put(x, "a|bc|,");
        Edge.due("only the first n bytes", x.sheets(4), 2);
        Edge.due("the tape is empty", x.count(2), 0);
    }

    static void promise04_aFaultLeavesTheSheetsBefore() {
        Edge.leavesAllButTape("a|", "sheets", -1002, x -> x.sheets(2));
        Edge.leavesAllButTape("a,b,c|d;", "sheets", -1007, x -> x.sheets(8));
        Edge.leavesAllButTape("a,b|" + SEVEN + "h", "sheets", -2011, x -> x.sheets(12));
        Edge.leavesAllButTape(Edge.times("a", 8, ",") + ",", "sheets", -4016, x -> x.sheets(16));
        Edge.leavesAllButTape("a|b,c d e f g h i", "sheets", -5016, x -> x.sheets(17));
    }

    static void promise04_sheetsComeInPlaceOfThoseBefore() {
        WordLinks x = new WordLinks();
        Edge.due("sheets", Edge.sheets(x, "a,b,c|d,e"), 5);
        Edge.due("of side 0", x.matched(2), 3);
        Edge.due("of side 1", x.matched(3), 2);
        Edge.due("sheets", Edge.sheets(x, "ff|g"), 2);
        Edge.due("of side 0", x.matched(2), 1);
        Edge.due("of side 1", x.matched(3), 1);
        Edge.due("cost", x.matched(0), 10);
        x.joins();
        Edge.due("letter", x.word(0, 0, 10), 'f');
        Edge.due("one word alone", x.side(0, 0), 1);
    }

    static void promise04_oneToEightSentencesASide() {
        String eight = Edge.times("a", 8, ",");
        sheetFault("a|b", 2);
        sheetFault("|b", -1000);
        sheetFault("a|", -1002);
        sheetFault(eight + "|" + eight, 16);
        sheetFault(eight + "|b", 9);
        sheetFault("a|" + eight, 9);
        sheetFault(eight + ",a|b", -4016);
        sheetFault("a|" + eight + ",a", -4018);
        sheetFault(eight + "|" + eight + ",a", -4032);
    }

    static void promise04_aNinthSentenceIsAheadOfWhatCantStandThere() {
        String eight = Edge.times("a", 8, ",");
        for (String behind : new String[] {"", ",", "|", " ", "?", SEVEN + "h"}) {
            sheetFault(eight + "," + behind, -4016);
            sheetFault("a|" + eight + "," + behind, -4018);
        }
        sheetFault(eight + ";", -1015);
        sheetFault("a|" + eight + "|", -1017);
    }

    static void promise04_oneBarStandsBetweenTheSheets() {
        sheetFault("a", -1001);
        sheetFault("a,b", -1003);
        sheetFault("a|b|", -1003);
        sheetFault("a|b|c", -1003);
        sheetFault("|", -1000);
        sheetFault("a||b", -1002);
        sheetFault("a=b", -1001);
        sheetFault("a|b;c|d", -1003);
    }

    static void promise04_theEndIsAFaultWhereMoreMustCome() {
        sheetFault("a ", -1002);
        sheetFault("a,", -1002);
        sheetFault("a,b|", -1004);
        sheetFault("a|b ", -1004);
        sheetFault("a|b,", -1004);
        sheetFault(",a|b", -1000);
        sheetFault("a,,b|c", -1002);
        sheetFault("a,|b", -1002);
    }

    static void promise04_wordsAndSentencesAreAsInPairs() {
        sheetFault(SEVEN + "|" + SEVEN, 2);
        sheetFault(SEVEN + "h|b", -2007);
        sheetFault("a|" + SEVEN + "h", -2009);
        sheetFault("a b c d e f|a b c d e f", 2);
        sheetFault("a b c d e f g|b", -5012);
        sheetFault("a|b,a b c d e f g", -5016);
        sheetFault("a b c d e f |b", -1012);
        sheetFault("a b c d e f ", -1012);
        sheetFault("A|b", -1000);
        sheetFault("a|`", -1002);
        sheetFault("a|{", -1002);
        sheetFault("a b ,c|d", -1004);
        sheetFault("a1|" + SEVEN + "h", -1001);
        sheetFault(SEVEN + "h|1", -2007);
    }

    static void promise04_pairsSharesAndWordsStay() {
        WordLinks x = Edge.scene();
        long fit = x.fit(0, -1);
        Edge.emptyTape(x);
        Edge.due("sheets", Edge.sheets(x, "qq|rr"), 2);
        Edge.due("fit", x.fit(0, -1), fit);
        Edge.due("pairs", x.count(0), 3);
        Edge.due("words", x.side(0, 0), 4);
    }

    // ---- promise 5: matched

    static void promise05_noneComesAheadOfNoSheets() {
        WordLinks x = new WordLinks();
        for (int what : new int[] {-1, 4, 9, 26, 27}) {
            Edge.due("matched(" + what + ")", x.matched(what), -1);
        }
        for (int what : Edge.ODD) {
            Edge.due("matched(" + what + ")", x.matched(what), -1);
        }
        for (int what : new int[] {0, 1, 2, 3, 10, 25}) {
            Edge.due("matched(" + what + ")", x.matched(what), -2);
        }
        Edge.sheets(x, "a|");
        Edge.due("a fault brings no sheets", x.matched(0), -2);
    }

    static void promise05_whatIs0To3And10To25() {
        for (int what : new int[] {-1, 4, 9, 26, 27}) {
            Edge.leavesAll("matched(" + what + ")", -1, x -> x.matched(what));
        }
        for (int what : Edge.ODD) {
            Edge.leavesAll("matched(" + what + ")", -1, x -> x.matched(what));
        }
        Edge.leavesAll("cost", 30, x -> x.matched(0));
        Edge.leavesAll("kind of part 1", 0, x -> x.matched(11));
        Edge.leavesAll("kind of part 2", -4, x -> x.matched(12));
        Edge.leavesAll("kind of part 15", -4, x -> x.matched(25));
    }

    static void promise05_oneToSixteenParts() {
        WordLinks x = Edge.with("q=q");
        Edge.sheets(x, "a|b");
        Edge.due("one part", x.matched(1), 1);
        Edge.due("its kind", x.matched(10), 0);
        Edge.due("no second one", x.matched(11), -4);
        // one letter against fourteen: sixteen parts alone cost 720, any that takes of both sides costs more
        Edge.sheets(x, Edge.times("a", 8, ",") + "|" + Edge.times(SEVEN + " " + SEVEN, 8, ","));
        Edge.due("sixteen parts", x.matched(1), 16);
        Edge.due("cost", x.matched(0), 720);
        for (int k = 0; k < 16; k++) {
            Edge.due("of like ones the lower kind first: part " + k, x.matched(10 + k), k < 8 ? 1 : 2);
        }
        Edge.due("no part 16", x.matched(26), -1);
        Edge.sheets(x, Edge.times("a", 8, ",") + "|" + Edge.times("b", 8, ","));
        Edge.due("eight parts", x.matched(1), 8);
        Edge.due("cost", x.matched(0), 0);
        Edge.due("part 7", x.matched(17), 0);
        Edge.due("no part 8", x.matched(18), -4);
        Edge.sheets(x, Edge.times("a", 8, ",") + "|b");
        Edge.due("seven alone, or two as one and six alone: 0 + 315 or 30 + 270", x.matched(0), 300);
        Edge.due("seven parts", x.matched(1), 7);
        Edge.due("the lower kind first", x.matched(15), 1);
        Edge.due("two as one at last", x.matched(16), 3);
    }

    private static void kinds(String text, int cost, int... kinds) {
        WordLinks x = new WordLinks();
        Edge.sheets(x, text);
        Edge.due("cost of " + text, x.matched(0), cost);
        Edge.due("parts of " + text, x.matched(1), kinds.length);
        for (int k = 0; k < kinds.length; k++) {
            Edge.due("part " + k + " of " + text, x.matched(10 + k), kinds[k]);
        }
    }

    static void promise05_aPartCostsTenForEachLetterThatDiffers() {
        kinds("aaa|bbb", 0, 0);
        kinds("aaa|bb", 10, 0);
        kinds("aa|bbb", 10, 0);
        kinds("a b c|ddd", 0, 0);
        kinds("aaaa bbbb|c", 70, 0);
    }

    static void promise05_aSentenceAloneCosts45() {
        // 8 letters that differ cost 80, two alone 90
        kinds("aaaaaa aaa|b", 80, 0);
        kinds("aaaaaa aaaaa|b", 90, 1, 2);
        kinds("b|aaaaaa aaaaa", 90, 1, 2);
        // at 9 both ways cost 90: the lower kind first
        kinds("aaaaaa aaaa|b", 90, 0);
        kinds("b|aaaaaa aaaa", 90, 0);
    }

    static void promise05_twoSentencesAsOneCost20() {
        kinds("aaa,bbb|ccc ddd", 20, 3);
        kinds("ccc ddd|aaa,bbb", 20, 4);
        // 4 letters against 3: 30; one alone: 45
        kinds("aaa,b|ccc", 30, 3);
        kinds("ccc|aaa,b", 30, 4);
        // 5 against 3: 40; 6 against 3: 50, so one alone is cheaper
        kinds("aaa,bb|ccc", 40, 3);
        kinds("aaa,bbb|ccc", 45, 0, 1);
        kinds("ccc|aaa,bbb", 45, 0, 2);
        kinds("ccc|aaa,bb", 40, 4);
    }

    static void promise05_ofLikeCostsTheFirstUnlikePartIsOfTheLowerKind() {
        kinds("aaaaaa aaaaa|b", 90, 1, 2);
        // 8 and 1 against 1 and 3: 70 and 20, or the 8 alone, the 1s together, the 3 alone
        kinds("aaaa aaaa,b|c,ddd", 90, 0, 0);
        // 1 and 3 against 8 and 1, likewise
        kinds("c,ddd|aaaa aaaa,b", 90, 0, 0);
    }

    static void promise05_sheetsStayAsTheyAre() {
        Edge.leavesAll("parts", 2, x -> x.matched(1));
        Edge.leavesAll("sentences of side 0", 2, x -> x.matched(2));
        Edge.leavesAll("sentences of side 1", 2, x -> x.matched(3));
    }

    // ---- promise 6: joins

    static void promise06_withoutSheetsNoneCome() {
        Edge.leavesAll(() -> Edge.with(Edge.BOOKS), "joins", -2, x -> x.joins());
        Edge.leavesAll(WordLinks::new, "joins", -2, x -> x.joins());
        WordLinks x = new WordLinks();
        Edge.sheets(x, "a|b|");
        Edge.due("behind a fault", x.joins(), -2);
    }

    private static WordLinks withSheets(WordLinks x, String text) {
        Edge.sheets(x, text);
        return x;
    }

    static void promise06_sixWordsFitSevenDont() {
        WordLinks x = withSheets(new WordLinks(), "a b c,d e f|abc def");
        Edge.due("six words of side 0", x.joins(), 1);
        Edge.due("the sixth", x.at(0, 0, 5), 5);
        x = withSheets(new WordLinks(), "abc def|a b c,d e f");
        Edge.due("six words of side 1", x.joins(), 1);
        Edge.due("the sixth", x.at(0, 1, 5), 5);
        for (String text : new String[] {
            "a b c,d e f g|abc defg", "a b c d,e f g|abc defg", "a,b c d e f g|abc defg",
            "abc defg|a b c,d e f g", "abc defg|a b c d,e f g", "a b c d e f,g h i j k l|abcdef ghijkl"
        }) {
            Edge.leavesAll(() -> withSheets(Edge.with(Edge.BOOKS), text), "joins of " + text, -5, y -> y.joins());
        }
        x = withSheets(new WordLinks(), "a b c d e f|a b c d e f");
        Edge.due("six words of one sentence", x.joins(), 1);
    }

    static void promise06_noneComeIfOneHasTooManyWords() {
        String text = "ab,a b c,d e f g,cd|ef,abcd efg,gh";
        WordLinks x = withSheets(new WordLinks(), text);
        Edge.due("the second part is of two", x.matched(11), 3);
        Edge.leavesAll(() -> withSheets(Edge.with(Edge.BOOKS), text), "joins", -5, y -> y.joins());
    }

    static void promise06_24PairsAtMost() {
        Edge.leavesAll(() -> withSheets(Edge.sized(23, 4, 3), "a,bb|c,dd"), "joins to 25", -3, x -> x.joins());
        Edge.leavesAll(() -> withSheets(Edge.sized(24, 4, 3), "a|c"), "joins to 25", -3, x -> x.joins());
        String eight = Edge.times("aa", 8, ",") + "|" + Edge.times("aa", 8, ",");
        WordLinks x = withSheets(Edge.sized(16, 1, 1), eight);
        Edge.due("24 pairs", x.joins(), 24);
        Edge.due("32 pairs", x.joins(), -3);
        x = withSheets(Edge.sized(17, 1, 1), eight);
        Edge.due("25 pairs", x.joins(), -3);
        x = withSheets(Edge.sized(23, 1, 1), "a,bb|c,dd");
        Edge.sheets(x, "aa aa aa aa aa,aa|aa aa aa aa aa");
        Edge.due("one part, or two of which one is alone: 24 pairs", x.joins(), 24);
    }

    static void promise06_40WordsASideAtMost() {
        Edge.leavesAll(() -> withSheets(Edge.sized(0, 40, 3), "zz|aa"), "joins", -4, x -> x.joins());
        Edge.leavesAll(() -> withSheets(Edge.sized(0, 3, 40), "aa|zz"), "joins", -4, x -> x.joins());
        Edge.leavesAll(() -> withSheets(Edge.sized(0, 39, 3), "zz,zy|aa,aa"), "joins", -4, x -> x.joins());
        Edge.leavesAll(() -> withSheets(Edge.sized(0, 3, 39), "zz,zy|zz,zy"), "joins", -4, x -> x.joins());
        WordLinks x = withSheets(Edge.sized(0, 39, 39), "zz,aa|aa,zy");
        Edge.due("40 words", x.joins(), 9);
        Edge.due("40 words", x.side(0, 0), 40);
        Edge.due("40 words", x.side(1, 0), 40);
        Edge.due("known words", x.joins(), 11);
    }

    static void promise06_tooManyWordsOfASentenceComeAheadOfTooManyPairs() {
        String text = "a b c,d e f g|abc defg";
        Edge.leavesAll(() -> withSheets(Edge.sized(24, 4, 3), text), "joins", -5, x -> x.joins());
        Edge.leavesAll(() -> withSheets(Edge.sized(24, 40, 3), text), "joins", -5, x -> x.joins());
    }

    static void promise06_partsOfOneSideAloneDontCome() {
        WordLinks x = withSheets(Edge.with(Edge.BOOKS), "aaaaaa aaaaaa|b");
        Edge.due("no part comes", x.joins(), 3);
        Edge.due("no word comes", x.side(0, 0), 4);
        Edge.due("no word comes", x.side(1, 0), 4);
        x = withSheets(Edge.sized(0, 40, 40), "zzzzzz zzzzz,aa|aa");
        Edge.due("a 41st word that is left out", x.joins(), 8);
        x = withSheets(Edge.sized(24, 1, 1), "zzzzzz zzzzzz|aa");
        Edge.due("no pair comes to 24", x.joins(), 24);
        x = withSheets(new WordLinks(), "aaa,bbb|ccc");
        Edge.due("kind 1 is left out", x.joins(), 1);
        Edge.due("words", x.side(0, 0), 1);
        x = withSheets(new WordLinks(), "ccc|aaa,bbb");
        Edge.due("kind 2 is left out", x.joins(), 1);
        Edge.due("words", x.side(1, 0), 1);
    }

    static void promise06_sentencesArePutTogetherInOrder() {
        WordLinks x = withSheets(new WordLinks(), "a b,c|d e f");
        Edge.due("joins", x.joins(), 1);
        for (int place = 0; place < 3; place++) {
            Edge.due("side 0", x.at(0, 0, place), place);
            Edge.due("side 1", x.at(0, 1, place), place);
        }
        Edge.due("c is the third", x.word(0, 2, 10), 'c');
        Edge.due("no fourth", x.at(0, 0, 3), -2);
    }

    static void promise06_sheetsStayAndSharesAreBegun() {
        WordLinks x = Edge.with("a b=x y;b=y");
        x.placed(true);
        x.rounds(0, 3);
        x.rounds(1, 3);
        Edge.sheets(x, "c|z");
        Edge.put(x, "zz");
        Edge.due("joins", x.joins(), 3);
        Edge.due("the tape stays", x.count(2), 20);
        Edge.due("even", x.share(0, 1, 0), 50000);
        Edge.due("even", x.share(1, 1, 0), 50000);
        Edge.due("near", x.near(0, 0), 12500);
        Edge.due("near", x.near(1, 0), 12500);
        Edge.due("sheets stay", x.matched(0), 0);
        Edge.due("joins again", x.joins(), 4);
        Edge.due("placed stays", x.placed(true), false);
    }

    static void promise06_toldLinksAndLeastStay() {
        WordLinks x = Edge.scene();
        Edge.due("joins", x.joins(), 5);
        Edge.due("told links", x.count(3), 3);
        Edge.due("least", x.count(1), 20000);
        Edge.due("none told of the new one", x.tell(3, 0, 0, false), -2);
    }

    // ---- promise 7: drop

    static void promise07_withoutPairsThereIsNoneToDrop() {
        Edge.leavesAll(WordLinks::new, "drop", -1, x -> x.drop());
        Edge.leavesAll(TextEdges::withoutPairs, "drop", -1, x -> x.drop());
    }

    private static WordLinks withoutPairs() {
        WordLinks x = Edge.scene();
        x.drop();
        x.drop();
        x.drop();
        return x;
    }

    static void promise07_theLatestPairGoes() {
        WordLinks x = Edge.sized(24, 40, 40);
        for (int pairs = 23; pairs >= 0; pairs--) {
            Edge.due("drop", x.drop(), pairs);
            Edge.due("pairs", x.count(0), pairs);
            Edge.due("no such pair", x.at(pairs, 0, 0), -1);
        }
        Edge.due("drop", x.drop(), -1);
        Edge.due("words", x.side(0, 0), 0);
        Edge.due("words", x.side(1, 0), 0);
        Edge.due("places", x.side(0, 1), 0);
        Edge.due("pairs again", Edge.pairs(x, "z=z"), 1);
    }

    static void promise07_wordsThatAreInNoPairGoToo() {
        WordLinks x = Edge.with("a b=x;c a d=x y");
        Edge.due("drop", x.drop(), 1);
        Edge.due("a and b stay", x.side(0, 0), 2);
        Edge.due("x stays", x.side(1, 0), 1);
        Edge.due("no c", Edge.find(x, 0, "c"), -2);
        Edge.due("no y", Edge.find(x, 1, "y"), -2);
        Edge.due("a", Edge.find(x, 0, "a"), 0);
        Edge.due("d and c come anew", Edge.pairs(x, "d c=x"), 2);
        Edge.due("d is the third now", Edge.find(x, 0, "d"), 2);
        Edge.due("c is the fourth now", Edge.find(x, 0, "c"), 3);
    }

    static void promise07_wordsOfEarlierPairsStay() {
        WordLinks x = Edge.with("a b=x y;b a=y x");
        Edge.due("drop", x.drop(), 1);
        Edge.due("words", x.side(0, 0), 2);
        Edge.due("words", x.side(1, 0), 2);
        Edge.due("places of b", x.word(0, 1, 1), 1);
    }

    static void promise07_partnersOfThePairGoToo() {
        WordLinks x = Edge.with("a=x;b=y;a b=y x");
        Edge.due("partners", x.word(0, 0, 2), 2);
        Edge.due("drop", x.drop(), 2);
        Edge.due("partners", x.word(0, 0, 2), 1);
        Edge.due("no partner", x.share(0, 0, 1), -2);
        Edge.due("share", x.share(0, 0, 0), 100000);
        Edge.due("partners, back", x.word(1, 1, 2), 1);
        Edge.due("no partner, back", x.share(1, 1, 0), -2);
        Edge.due("share, back", x.share(1, 1, 1), 100000);
    }

    static void promise07_wordsOfAPairThatWentDontComeBack() {
        WordLinks x = Edge.with("a=x;b c d=y z w");
        x.drop();
        Edge.pairs(x, "b=y;e=v");
        Edge.due("a, b, e", x.side(0, 0), 3);
        Edge.due("drop", x.drop(), 2);
        Edge.due("a, b", x.side(0, 0), 2);
        Edge.due("x, y", x.side(1, 0), 2);
        Edge.due("places", x.side(0, 1), 2);
        Edge.due("no second place", x.at(1, 0, 1), -2);
    }

    static void promise07_itsToldLinksAreForgotten() {
        WordLinks x = Edge.with("a=x;b=y");
        x.tell(0, 0, 0, true);
        x.tell(1, 0, 0, true);
        x.drop();
        Edge.due("those of others stay", x.count(3), 1);
        Edge.pairs(x, "b=y");
        Edge.due("told links", x.count(3), 1);
        Edge.due("forgotten", x.tell(1, 0, 0, false), -2);
        Edge.due("not those of pair 0", x.tell(0, 0, 0, true), -2);
    }

    static void promise07_sharesAreBegun() {
        WordLinks x = Edge.with("a b=x y;b=y;c=z");
        x.placed(true);
        x.rounds(0, 3);
        x.rounds(1, 3);
        x.drop();
        Edge.due("even", x.share(0, 1, 0), 50000);
        Edge.due("even", x.share(1, 1, 0), 50000);
        Edge.due("near", x.near(0, 0), 12500);
        Edge.due("near", x.near(1, 0), 12500);
        x = Edge.byLetters("a=a b;c=c");
        x.drop();
        Edge.due("by letters", x.share(0, 0, 0), 80000);
    }

    static void promise07_tapeSheetsAndSettingsStay() {
        WordLinks x = Edge.scene();
        Edge.due("drop", x.drop(), 2);
        Edge.due("tape", x.count(2), 20);
        Edge.due("least", x.count(1), 20000);
        Edge.due("sheets", x.matched(1), 2);
        Edge.due("placed", x.placed(true), false);
        Edge.due("by letters", x.byLetters(true), false);
        Edge.due("kept", x.undo(), true);
        Edge.due("pairs kept", x.count(0), 2);
    }
}

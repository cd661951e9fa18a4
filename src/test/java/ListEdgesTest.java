/** Promises 21 to 28, and what "Terms" says of the LIST, strikes, SIGHTS: each sentence that names an edge has its own test. */
public final class ListEdgesTest {
    private static final Due DUE = new Due("ListEdgesTest");
    private static final int NONE = Edge.NONE, UNKNOWN = Edge.UNKNOWN, OUTSIDE = Edge.OUTSIDE, FULL = Edge.FULL, NO = Edge.NO;

    public static void main(String[] args) {
        listOfFour();
        listEmptiesThePad();
        listOfAFault();
        listForgotten();
        heldNothingTold();
        heldByOne();
        heldByFour();
        heldLeastAsBits();
        heldFewestAheadOfLeast();
        heldByTheLastWord();
        heldWhat();
        strikeOfNothing();
        strikeOfAll();
        strikeOfWordsThatAreNot();
        strikeOfEachSort();
        strikeSets();
        worstOfNone();
        worstOfOne();
        worstTheLeast();
        worstLeavesTheFewest();
        worstOnlyOfWordsThatAre();
        sixSights();
        sightSets();
        sightFirms();
        forgetWhich();
        forgetNothing();
        spokeOfEachSight();
        spokeNone();
        spokeForNothing();
        spokeJustThese();
        spokeByTodaysRents();
        whoWithoutSights();
        whoNobody();
        whoSomeSight();
        whoPaidNothing();
        whoOfFive();
        DUE.end();
    }

    private static void list(WordRents x, String text, int want) {
        Due.say(x, text);
        DUE.is("21: " + text, x.list(), want);
    }

    /** "SENTENCES that are told (4 at most)". */
    private static void listOfFour() {
        WordRents x = WordsTest.fourWords();
        list(x, "aca", 1);
        list(x, "bcb", 2);
        list(x, "acadb", 3);
        list(x, "aca", 4);
        list(x, "bca", FULL);
        DUE.is("34: four", x.told(5), 4);
        DUE.is("34: the fifth stands on the PAD yet", x.told(0), 3);
        DUE.is("21: refused again", x.list(), FULL);
        DUE.is("26: four go", x.forget(0), 4);
        DUE.is("21: now it is told", x.list(), 1);
    }

    /** "(the PAD is empty then)". */
    private static void listEmptiesThePad() {
        WordRents x = WordsTest.fourWords();
        Due.say(x, "acadb");
        DUE.is("21: of 5 WORDS", x.list(), 1);
        DUE.is("34: no signs", x.told(0), 0);
        DUE.is("21: nothing more", x.list(), NO);
        DUE.is("6: from the first on", x.say('a'), 1);
    }

    /** "NO: there is a FAULT (0); FULL": a FAULT is told first. */
    private static void listOfAFault() {
        WordRents x = WordsTest.fourWords();
        list(x, "", NO);
        list(x, "ac", NO);
        list(x, "acad", NO);
        list(x, "acaa", NO);
        list(x, "acadba", NO);
        list(x, "0a+", NO);
        DUE.is("34: none told", x.told(5), 0);
        DUE.is("34: the PAD stays", x.told(0), 3);
        for (int i = 1; i <= 4; i++) {
            list(x, "aca", i);
        }
        list(x, "ac", NO);
    }

    /** What is told behind a forgotten LIST stands alone. */
    private static void listForgotten() {
        WordRents x = WordsTest.fourWords();
        list(x, "aca", 1);
        list(x, "aca", 2);
        x.forget(0);
        list(x, "bcb", 1);
        DUE.is("22: b alone", x.held(1), 2);
        DUE.is("29: b and c", x.let(1, 2, 1), 100);
    }

    private static void held(WordRents x, int count, int set) {
        DUE.is("22: how many", x.held(0), count);
        DUE.is("22: the set", x.held(1), set);
    }

    /** "(nothing told: 0)": both how many and the set. */
    private static void heldNothingTold() {
        held(new WordRents(), 0, 0);
        WordRents x = Edge.rich("acb");
        x.forget(0);
        held(x, 0, 0);
    }

    /** Three nouns a to c, a joiner d, verbs e to h. */
    private static WordRents verbs() {
        WordRents x = new WordRents();
        for (int w = 0; w < 8; w++) {
            x.word(w, w < 3 ? 0 : w == 3 ? 2 : 1, 0, 0, 0);
        }
        return x;
    }

    private static void heldByOne() {
        WordRents x = verbs();
        list(x, "cec", 1);
        held(x, 1, 4);
        list(x, "bebda", 2);
        held(x, 1, 16);
        list(x, "afa", 3);
        held(x, 2, 1 + 4);
    }

    /** Four SENTENCES without a WORD in common need four WORDS, and no four need more. */
    private static void heldByFour() {
        WordRents x = new WordRents();
        for (int w = 0; w < 8; w++) {
            x.word(w, w % 2 == 0 ? 0 : 1, 0, 0, 0);
        }
        list(x, "aba", 1);
        held(x, 1, 1);
        list(x, "cdc", 2);
        held(x, 2, 5);
        list(x, "efe", 3);
        held(x, 3, 21);
        list(x, "ghg", 4);
        held(x, 4, 85);
        DUE.is("22: not more by a strike", x.strikeOut(0), 7);
        held(x, 4, 85);
    }

    /** "the set, least as bits of as few". */
    private static void heldLeastAsBits() {
        WordRents x = verbs();
        list(x, "ahb", 1);
        held(x, 1, 1);
        list(x, "bha", 2);
        held(x, 1, 1);
        list(x, "chb", 3);
        held(x, 1, 2);
        list(x, "chc", 4);
        held(x, 1, 128);
    }

    /** "the fewest WORDS": one WORD of many bits goes ahead of two of few. */
    private static void heldFewestAheadOfLeast() {
        WordRents x = verbs();
        list(x, "aha", 1);
        list(x, "bhb", 2);
        held(x, 1, 128);
        list(x, "chc", 3);
        held(x, 1, 128);
        list(x, "cgc", 4);
        held(x, 2, 4 + 128);
    }

    private static void heldByTheLastWord() {
        WordRents x = new WordRents();
        x.word(7, 0, 0, 0, 0);
        x.word(6, 1, 0, 0, 0);
        list(x, "hgh", 1);
        held(x, 1, 64);
        x.word(5, 1, 0, 0, 0);
        list(x, "hfh", 2);
        held(x, 1, 128);
    }

    private static void heldWhat() {
        for (WordRents x : new WordRents[] {new WordRents(), Edge.full("")}) {
            DUE.is("22: -1", x.held(-1), OUTSIDE);
            DUE.is("22: 2", x.held(2), OUTSIDE);
        }
    }

    /** A strike of nothing leaves all SENTENCES. */
    private static void strikeOfNothing() {
        DUE.is("23: no WORDS", new WordRents().strike(0), 0);
        WordRents x = WordsTest.fourWords();
        DUE.is("23: all", x.strike(0), 4 + 8);
        DUE.is("23: as many as can be said", x.strike(0), x.said(4, 999, 0));
    }

    /** "0 to 255": all WORDS on strike leave nothing. */
    private static void strikeOfAll() {
        DUE.is("23: of all", verbs().strike(255), 0);
        DUE.is("23: of all, without WORDS", new WordRents().strike(255), 0);
        DUE.is("23: 256", verbs().strike(256), OUTSIDE);
        DUE.is("23: -1", verbs().strike(-1), OUTSIDE);
    }

    private static void strikeOfWordsThatAreNot() {
        WordRents x = WordsTest.fourWords();
        for (int w = 4; w < 8; w++) {
            DUE.is("23: there is no " + w, x.strike(1 << w), 12);
        }
        DUE.is("23: with one that is", x.strike(1 + 128), 2);
        DUE.is("23: the WORDS stay", x.told(1), 15);
    }

    /** Without a noun or a verb nothing is left, without joiners those of 3. */
    private static void strikeOfEachSort() {
        WordRents x = verbs();
        DUE.is("23: nouns", x.strike(7), 0);
        DUE.is("23: verbs", x.strike(240), 0);
        DUE.is("23: the joiner", x.strike(8), 9 * 4);
        DUE.is("23: two nouns", x.strike(3), 4 + 4);
        DUE.is("23: three verbs", x.strike(112), 9 + 27);
        DUE.is("23: one of each is left", x.strike(255 - 1 - 8 - 128), 2);
    }

    /** Each set from 0 to 255 leaves what is left by counting. */
    private static void strikeSets() {
        WordRents x = verbs();
        for (int set = 0; set <= 255; set++) {
            int nouns = 3 - Integer.bitCount(set & 7);
            int joiners = 1 - (set >> 3 & 1);
            int verbs = 4 - Integer.bitCount(set >> 4);
            DUE.is("23: " + set, x.strike(set), nouns * nouns * verbs + nouns * nouns * nouns * verbs * joiners);
        }
    }

    /** "NONE: there are no WORDS". */
    private static void worstOfNone() {
        WordRents x = new WordRents();
        DUE.is("24: none", x.worst(), NONE);
        x.word(0, 0, 0, 0, 0);
        x.strikeOut(0);
        DUE.is("24: none again", x.worst(), NONE);
    }

    private static void worstOfOne() {
        for (int w = 0; w < 8; w++) {
            WordRents x = new WordRents();
            x.word(w, w % 3, 0, 0, 0);
            DUE.is("24: the only one", x.worst(), w);
        }
    }

    /** "the least": of those whose strikes leave as few. */
    private static void worstTheLeast() {
        WordRents x = new WordRents();
        x.word(7, 0, 0, 0, 0);
        x.word(5, 0, 0, 0, 0);
        x.word(3, 0, 0, 0, 0);
        DUE.is("24: nothing can be said at all", x.worst(), 3);
        x.word(6, 1, 0, 0, 0);
        DUE.is("24: the verb", x.worst(), 6);
        x.word(4, 1, 0, 0, 0);
        DUE.is("24: of two verbs and three nouns a noun", x.worst(), 3);
        WordRents y = new WordRents();
        y.word(6, 0, 0, 0, 0);
        y.word(2, 1, 0, 0, 0);
        DUE.is("24: the only noun and the only verb", y.worst(), 2);
    }

    /** "leaves the fewest", though a lesser WORD leaves few. */
    private static void worstLeavesTheFewest() {
        WordRents x = verbs();
        DUE.is("24: the joiner leaves 36, a noun 48, a verb 108", x.worst(), 3);
        for (int w = 4; w < 7; w++) {
            x.strikeOut(w);
        }
        DUE.is("24: the only verb", x.worst(), 7);
        x.strikeOut(7);
        DUE.is("24: nothing can be said", x.worst(), 0);
    }

    private static void worstOnlyOfWordsThatAre() {
        WordRents x = verbs();
        x.strikeOut(0);
        DUE.is("24: a is none", x.worst(), 1);
        x.strikeOut(1);
        DUE.is("24: nor is b", x.worst(), 2);
    }

    /** "SIGHTS, 6 at most". */
    private static void sixSights() {
        WordRents x = new WordRents();
        for (int i = 1; i <= 6; i++) {
            DUE.is("25: SIGHT " + i, x.seen(3, 255), i);
        }
        DUE.is("25: a seventh", x.seen(0, 0), FULL);
        DUE.is("25: an eighth", x.seen(3, 255), FULL);
        DUE.is("34: six", x.told(6), 6);
        DUE.is("26: six go", x.forget(1), 6);
        DUE.is("25: room for the first", x.seen(0, 0), 1);
    }

    /** "OUTSIDE: 0 to 255": WORDS need not be there. */
    private static void sightSets() {
        WordRents x = new WordRents();
        DUE.is("25: -1", x.seen(0, -1), OUTSIDE);
        DUE.is("25: 0", x.seen(0, 0), 1);
        DUE.is("25: 255", x.seen(0, 255), 2);
        DUE.is("25: 256", x.seen(0, 256), OUTSIDE);
        DUE.is("34: two", x.told(6), 2);
    }

    /** "UNKNOWN: the FIRM": nobody pays for nothing, so 4 is none. */
    private static void sightFirms() {
        WordRents x = new WordRents();
        for (int firm = 0; firm < 4; firm++) {
            DUE.is("25: FIRM " + firm, x.seen(firm, 1), firm + 1);
        }
        DUE.is("25: nobody", x.seen(4, 1), UNKNOWN);
        DUE.is("25: -1", x.seen(-1, 1), UNKNOWN);
        DUE.is("34: four", x.told(6), 4);
    }

    /** "The LIST (which = 0), SIGHTS (1) go": one of them, not the other. */
    private static void forgetWhich() {
        WordRents x = Edge.full("");
        DUE.is("26: 2", x.forget(2), OUTSIDE);
        DUE.is("26: -1", x.forget(-1), OUTSIDE);
        DUE.is("34: both stay", x.told(5) * 10 + x.told(6), 46);
        DUE.is("26: the LIST", x.forget(0), 4);
        DUE.is("34: SIGHTS stay", x.told(5) * 10 + x.told(6), 6);
        DUE.is("26: SIGHTS", x.forget(1), 6);
        DUE.is("34: both are gone", x.told(5) * 10 + x.told(6), 0);
        WordRents y = Edge.full("");
        DUE.is("26: SIGHTS first", y.forget(1), 6);
        DUE.is("34: the LIST stays", y.told(5) * 10 + y.told(6), 40);
    }

    private static void forgetNothing() {
        WordRents x = new WordRents();
        DUE.is("26: no LIST", x.forget(0), 0);
        DUE.is("26: no SIGHTS", x.forget(1), 0);
        x.seen(0, 0);
        DUE.is("26: one", x.forget(1), 1);
        DUE.is("26: then none", x.forget(1), 0);
    }

    private static void spoke(WordRents x, int sight, int count, String first) {
        DUE.is("27: how many of " + sight, x.spoke(sight, 0), count);
        for (int i = 0; i < 3; i++) {
            int want = i < first.length() ? first.charAt(i) - 'a' : NONE;
            DUE.is("27: " + sight + " place " + i, x.spoke(sight, 1 + i), want);
        }
    }

    /** Nouns a (FIRM 0's) and b (FIRM 1's), verb c (FIRM 2's), joiner d (FIRM 3's). */
    private static WordRents four() {
        WordRents x = WordsTest.fourWords();
        DUE.lease(x, "0a+1b+2c+3d+");
        return x;
    }

    /** "a SIGHT (from 0 on)": to the last that there is. */
    private static void spokeOfEachSight() {
        WordRents x = four();
        for (int sight = 0; sight < 6; sight++) {
            DUE.is("27: not yet " + sight, x.spoke(sight, 0), OUTSIDE);
            x.seen(sight % 4, 4);
            DUE.isTrue("27: now " + sight, x.spoke(sight, 0) >= 0);
        }
        spoke(x, 0, 1, "aca");
        spoke(x, 1, 1, "bcb");
        spoke(x, 2, 0, "");
        spoke(x, 3, 0, "");
        spoke(x, 4, 1, "aca");
        spoke(x, 5, 1, "bcb");
        DUE.is("27: 6", x.spoke(6, 0), OUTSIDE);
        DUE.is("27: -1", x.spoke(-1, 0), OUTSIDE);
        DUE.is("27: what 4", x.spoke(0, 4), OUTSIDE);
        DUE.is("27: what -1", x.spoke(0, -1), OUTSIDE);
    }

    /** "NONE": no SENTENCE fits, or there is none at all. */
    private static void spokeNone() {
        WordRents x = new WordRents();
        x.seen(0, 0);
        x.seen(3, 255);
        spoke(x, 0, 0, "");
        spoke(x, 1, 0, "");
        WordRents y = four();
        y.seen(0, 8);
        y.seen(0, 255);
        y.seen(0, 1);
        spoke(y, 0, 0, "");
        spoke(y, 1, 0, "");
        spoke(y, 2, 0, "");
    }

    /** A set of nothing: what the FIRM could say without paying. */
    private static void spokeForNothing() {
        WordRents x = WordsTest.fourWords();
        x.seen(0, 0);
        spoke(x, 0, 4, "aca");
        DUE.lease(x, "1a+");
        spoke(x, 0, 1, "bcb");
        DUE.lease(x, "1a-0a+");
        spoke(x, 0, 4, "aca");
        DUE.lease(x, "2c+");
        spoke(x, 0, 0, "");
        x.word(2, 1, 0, 0, 0);
        DUE.lease(x, "2c+");
        spoke(x, 0, 4, "aca");
    }

    /** "its WORDS that cost something are just these": neither more nor fewer. */
    private static void spokeJustThese() {
        WordRents x = four();
        x.seen(3, 4);
        x.seen(3, 1 + 4);
        x.seen(3, 2 + 4);
        x.seen(3, 1 + 2 + 4);
        x.seen(3, 1 + 2 + 4 + 8);
        spoke(x, 0, 0, "");
        spoke(x, 1, 1, "aca");
        spoke(x, 2, 1, "bcb");
        spoke(x, 3, 2, "acb");
        spoke(x, 4, 0, "");
    }

    /** "(RENTS, HOLDERS are as now)". */
    private static void spokeByTodaysRents() {
        WordRents x = four();
        x.seen(3, 1 + 4);
        spoke(x, 0, 1, "aca");
        DUE.lease(x, "2c-");
        spoke(x, 0, 0, "");
        DUE.lease(x, "3c+");
        spoke(x, 0, 0, "");
        DUE.lease(x, "3c-1c+");
        spoke(x, 0, 1, "aca");
        DUE.lease(x, "1cv1cv1cv1cv1cv1cv1cv");
        spoke(x, 0, 1, "aca");
        DUE.lease(x, "1cv");
        spoke(x, 0, 0, "");
    }

    /** "or they have no SIGHT": then they could have said all. */
    private static void whoWithoutSights() {
        WordRents x = four();
        Due.say(x, "acb");
        DUE.is("28: all", x.who(), 15);
        x.seen(2, 0);
        DUE.is("28: not the third", x.who(), 11);
        x.forget(1);
        DUE.is("28: all again", x.who(), 15);
    }

    /** None of the four: 0, which is no refusal. */
    private static void whoNobody() {
        WordRents x = four();
        Due.say(x, "acb");
        for (int firm = 0; firm < 4; firm++) {
            x.seen(firm, 8);
        }
        DUE.is("28: nobody", x.who(), 0);
    }

    /** "some SIGHT of theirs": the first, the last, or one between; another FIRM's does not help. */
    private static void whoSomeSight() {
        for (int right = 0; right < 6; right++) {
            WordRents x = four();
            Due.say(x, "acb");
            for (int i = 0; i < 6; i++) {
                x.seen(0, i == right ? 2 + 4 : 128);
            }
            DUE.is("28: the SIGHT " + right, x.who(), 15);
        }
        WordRents x = four();
        Due.say(x, "acb");
        x.seen(0, 1 + 2 + 4);
        x.seen(1, 2 + 4);
        x.seen(2, 1 + 2);
        x.seen(3, 1 + 2 + 4);
        DUE.is("28: the third and the fourth", x.who(), 12);
    }

    /** A SENTENCE that costs a FIRM nothing fits only a SIGHT of nothing. */
    private static void whoPaidNothing() {
        WordRents x = WordsTest.fourWords();
        Due.say(x, "acb");
        x.seen(0, 0);
        x.seen(1, 1);
        DUE.is("28: nobody's WORDS", x.who(), 13);
        x.word(0, 0, 0, 0, 0);
        DUE.lease(x, "3a+");
        Due.say(x, "acb");
        DUE.is("28: a RENT of 0", x.who(), 13);
        DUE.lease(x, "3a^");
        Due.say(x, "acb");
        DUE.is("28: a RENT of 1", x.who(), 14);
    }

    /** SPOKE is of 3 WORDS, WHO of the SENTENCE on the PAD, of 5 too. */
    private static void whoOfFive() {
        WordRents x = four();
        x.seen(0, 2 + 4 + 8);
        x.seen(1, 1 + 4);
        Due.say(x, "acadb");
        DUE.is("28: the first, not the second", x.who(), 13);
        spoke(x, 0, 0, "");
        spoke(x, 1, 3, "aca");
        DUE.is("34: the PAD stays", x.told(0), 5);
        Due.say(x, "acad");
        DUE.is("28: a FAULT", x.who(), NO);
    }
}

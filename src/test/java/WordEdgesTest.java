/** Promises 1 to 8, and what "Terms" says of WORDS, the PAD and FAULTS: each sentence that names an edge has its own test. */
public final class WordEdgesTest {
    private static final Due DUE = new Due("WordEdgesTest");
    private static final int NONE = Edge.NONE, UNKNOWN = Edge.UNKNOWN, OUTSIDE = Edge.OUTSIDE, FULL = Edge.FULL, NO = Edge.NO;

    public static void main(String[] args) {
        callsUpToTheLast();
        noWordsAtFirst();
        newObjectAnswersAll();
        firstAndLastWord();
        setsAreBits();
        sorts();
        meanings();
        rhymes();
        rents();
        nobodyAtFirst();
        anewHeldByNobody();
        howManyAre();
        strikeOutToTheLast();
        farAtFirst();
        farOfOneAndItself();
        farLeastAndMost();
        farAlikeBothWays();
        capLeastAndMost();
        driftLeastAndMost();
        signsLeastAndMost();
        sixtySigns();
        fullThenWiped();
        wipeOfNothing();
        emptyPadHasAFault();
        moreMustCome();
        nothingBehindTheFifth();
        firstSignThatCanNotStand();
        lettersNextToWords();
        wordsThatThereAre();
        emptyLeases();
        leasesMustGoOn();
        leasesFillThePad();
        signsNextToLeases();
        firmsOfLeases();
        DUE.end();
    }

    /** "An object is used for at most 512 calls": the last of them is answered as the first. */
    private static void callsUpToTheLast() {
        WordRents x = new WordRents();
        for (int call = 1; call <= 512; call += 2) {
            DUE.is("512: call " + call, x.say('a'), 1);
            DUE.is("512: call " + (call + 1), x.wipe(), 1);
        }
        WordRents y = Edge.rich("acb");
        WordRents z = Edge.rich("acb");
        for (int i = 0; i < 420; i++) {
            y.price(i % 5);
        }
        DUE.isTrue("512: the answers hang on no number of calls", y.price(4) == z.price(4) && y.year(1, 99, 2) == z.year(1, 99, 2));
    }

    /** "some of which there are (none at first)". */
    private static void noWordsAtFirst() {
        WordRents x = new WordRents();
        DUE.is("1: WORDS as bits", x.told(1), 0);
        for (int w = 0; w < 8; w++) {
            DUE.is("1: state of " + w, x.state(w, 0), UNKNOWN);
            DUE.is("1: nothing to strike out " + w, x.strikeOut(w), UNKNOWN);
            DUE.is("1: no SORT of " + w, x.told(10 + 10 * w), OUTSIDE);
            Due.say(x, "" + (char) ('a' + w));
            DUE.is("1: no letter stands " + w, x.fault(0), 0);
        }
    }

    /** "No WORDS": every call has its answer on a new object. */
    private static void newObjectAnswersAll() {
        WordRents x = new WordRents();
        DUE.is("1: wipe", x.wipe(), 0);
        DUE.is("1: price", x.price(4), NO);
        DUE.is("1: gets", x.gets(4, 0), NO);
        DUE.is("1: nearly", x.nearly(4, 0, 0), NO);
        DUE.is("1: said", x.said(4, 999, 0), 0);
        DUE.is("1: said of 5", x.said(4, 999, 1), 0);
        DUE.is("1: said, the first", x.said(4, 999, 2), NONE);
        DUE.is("1: misprints", x.misprints(4, 0), NO);
        DUE.is("1: judge", x.judge(0), NONE);
        DUE.is("1: done", x.done(), 0);
        DUE.is("1: behind", x.behind(0, 0), UNKNOWN);
        DUE.is("1: after", x.after(0, 0, 0), UNKNOWN);
        DUE.is("1: settles", x.settles(), 1);
        DUE.is("1: round", x.round(), NONE);
        DUE.is("1: list", x.list(), NO);
        DUE.is("1: held", x.held(0) + x.held(1), 0);
        DUE.is("1: strike", x.strike(0) + x.strike(255), 0);
        DUE.is("1: worst", x.worst(), NONE);
        DUE.is("1: forget", x.forget(0) + x.forget(1), 0);
        DUE.is("1: spoke", x.spoke(0, 0), OUTSIDE);
        DUE.is("1: who", x.who(), NO);
        DUE.is("1: let", x.let(10, 0, 0), WordRents.LOST + NO);
        DUE.is("1: let some", x.let(10, 1, 0) * 10 + x.let(10, 1, 1), 1);
        DUE.is("1: let the LIST", x.let(10, 2, 0) * 10 + x.let(10, 2, 1), 1);
        DUE.is("1: rests", x.rests(0, 1, -1), UNKNOWN);
        DUE.is("1: year", x.year(0, 99, 0) + x.year(0, 99, 1) + x.year(0, 99, 2), 0);
        DUE.is("1: restore", x.restore(0), Edge.STATE);
        DUE.is("1: a DAY without WORDS", x.say('.') + x.done(), 2);
        DUE.is("1: it is counted", x.told(4), 1);
    }

    /** "WORDS 0 to 7 (a to h)". */
    private static void firstAndLastWord() {
        WordRents x = new WordRents();
        DUE.is("2: -1", x.word(-1, 0, 0, 0, 0), UNKNOWN);
        DUE.is("2: 8", x.word(8, 0, 0, 0, 0), UNKNOWN);
        DUE.is("2: none came", x.told(1), 0);
        DUE.is("2: 0", x.word(0, 0, 0, 0, 0), 1);
        DUE.is("2: 7", x.word(7, 1, 0, 0, 0), 2);
        Due.say(x, "aha");
        DUE.is("2: a and h", x.fault(0), NONE);
        Due.say(x, "0a+3h+");
        DUE.is("2: a and h in LEASES", x.done(), 2);
        DUE.is("2: their HOLDERS", x.state(0, 1) * 10 + x.state(7, 1), 3);
    }

    /** "Sets of WORDS are bits": WORD 0 is 1, WORD 7 is 128. */
    private static void setsAreBits() {
        for (int w = 0; w < 8; w++) {
            WordRents x = new WordRents();
            x.word(w, 0, 0, 0, 0);
            DUE.is("34: bit of " + w, x.told(1), 1 << w);
            int verb = (w + 3) % 8;
            x.word(verb, 1, 0, 0, 0);
            Edge.tell(x, "" + (char) ('a' + w) + (char) ('a' + verb) + (char) ('a' + w));
            DUE.is("22: bit of the lesser of two", x.held(1), 1 << Math.min(w, verb));
            DUE.is("23: its strike leaves nothing", x.strike(1 << w), 0);
            DUE.is("23: of all others there is none but the verb", x.strike(255 - (1 << w) - (1 << verb)), 1);
        }
    }

    /** "each of a SORT (0 a noun, 1 a verb, 2 a joiner)". */
    private static void sorts() {
        WordRents x = new WordRents();
        for (int sort = 0; sort < 3; sort++) {
            DUE.is("2: SORT " + sort, x.word(sort, sort, 0, 0, 0), sort + 1);
            DUE.is("34: SORT " + sort, x.told(10 + 10 * sort), sort);
        }
        DUE.is("2: SORT -1", x.word(3, -1, 0, 0, 0), OUTSIDE);
        DUE.is("2: SORT 3", x.word(3, 3, 0, 0, 0), OUTSIDE);
        Due.say(x, "abaca");
        DUE.is("8: noun, verb, noun, joiner, noun", x.fault(0), NONE);
    }

    /** "with a MEANING (0 to 4)". */
    private static void meanings() {
        WordRents x = new WordRents();
        for (int meaning = 0; meaning < 5; meaning++) {
            x.word(meaning, 0, meaning, 0, 0);
            DUE.is("2: MEANING " + meaning, x.state(meaning, 2), meaning);
        }
        DUE.is("2: MEANING -1", x.word(0, 0, -1, 0, 0), OUTSIDE);
        DUE.is("2: MEANING 5", x.word(0, 0, 5, 0, 0), OUTSIDE);
        DUE.is("2: a keeps its own", x.state(0, 2), 0);
    }

    /** "a RHYME (0 to 3)". */
    private static void rhymes() {
        WordRents x = new WordRents();
        for (int rhyme = 0; rhyme < 4; rhyme++) {
            x.word(rhyme, 0, 0, rhyme, 0);
            DUE.is("2: RHYME " + rhyme, x.told(11 + 10 * rhyme), rhyme);
        }
        DUE.is("2: RHYME -1", x.word(3, 0, 0, -1, 0), OUTSIDE);
        DUE.is("2: RHYME 4", x.word(3, 0, 0, 4, 0), OUTSIDE);
        DUE.is("2: d keeps its own", x.told(41), 3);
    }

    /** "a RENT a day (0 to 99)". */
    private static void rents() {
        WordRents x = new WordRents();
        for (int rent : new int[] {0, 1, 98, 99}) {
            DUE.is("2: RENT " + rent, x.word(5, 0, 0, 0, rent), 1);
            DUE.is("16: RENT " + rent, x.state(5, 0), rent);
        }
        DUE.is("2: RENT -1", x.word(5, 0, 0, 0, -1), OUTSIDE);
        DUE.is("2: RENT 100", x.word(5, 0, 0, 0, 100), OUTSIDE);
        DUE.is("2: RENT stays 99", x.state(5, 0), 99);
    }

    /** "a HOLDER: FIRM 0 to 3, or nobody (4, at first)". */
    private static void nobodyAtFirst() {
        WordRents x = new WordRents();
        for (int w = 0; w < 8; w++) {
            x.word(w, 0, 0, 0, 0);
            DUE.is("2: HOLDER of " + w, x.state(w, 1), 4);
        }
        for (int firm = 0; firm < 4; firm++) {
            DUE.lease(x, firm + "a+");
            DUE.is("16: HOLDER " + firm, x.state(0, 1), firm);
            DUE.lease(x, firm + "a-");
            DUE.is("16: given up by " + firm, x.state(0, 1), 4);
        }
    }

    /** "A WORD is there (or anew, held by nobody)": told the same again, it has no HOLDER; refused, it keeps him. */
    private static void anewHeldByNobody() {
        WordRents x = new WordRents();
        x.word(4, 1, 2, 3, 40);
        DUE.lease(x, "0e+");
        DUE.is("2: refused by SORT", x.word(4, 3, 2, 3, 40), OUTSIDE);
        DUE.is("2: refused by RENT", x.word(4, 1, 2, 3, 100), OUTSIDE);
        DUE.is("2: still held", x.state(4, 1), 0);
        DUE.is("2: anew", x.word(4, 1, 2, 3, 40), 1);
        DUE.is("2: nobody's", x.state(4, 1), 4);
        DUE.lease(x, "3e+");
        x.strikeOut(4);
        x.word(4, 1, 2, 3, 40);
        DUE.is("2: nobody's, behind a strike", x.state(4, 1), 4);
    }

    /** "how many are": up to 8, and not more by a WORD that comes anew. */
    private static void howManyAre() {
        WordRents x = new WordRents();
        for (int w = 7; w >= 0; w--) {
            DUE.is("2: with " + w, x.word(w, w % 3, 0, 0, 0), 8 - w);
        }
        for (int w = 0; w < 8; w++) {
            DUE.is("2: anew " + w, x.word(w, 0, 0, 0, 0), 8);
        }
        DUE.is("34: all", x.told(1), 255);
        for (int w = 0; w < 8; w++) {
            DUE.is("3: without " + w, x.strikeOut(w), 7 - w);
        }
    }

    /** "A WORD is no more: how many are. UNKNOWN: there was none." */
    private static void strikeOutToTheLast() {
        WordRents x = new WordRents();
        x.word(7, 0, 0, 0, 0);
        DUE.is("3: another", x.strikeOut(6), UNKNOWN);
        DUE.is("3: the only one", x.strikeOut(7), 0);
        DUE.is("3: none", x.told(1), 0);
        DUE.is("3: again", x.strikeOut(7), UNKNOWN);
        DUE.is("3: as few as before", x.word(0, 0, 0, 0, 0), 1);
    }

    /** "1 for all others at first". */
    private static void farAtFirst() {
        WordRents x = new WordRents();
        for (int a = 0; a < 5; a++) {
            for (int b = a + 1; b < 5; b++) {
                DUE.is("4: " + a + " and " + b, x.far(a, b, 2), 1);
            }
        }
    }

    /** "of one and itself 0"; "OUTSIDE: also both are one". */
    private static void farOfOneAndItself() {
        WordRents x = new WordRents();
        for (int a = 0; a < 5; a++) {
            DUE.is("4: told " + a, x.told(100 + 11 * a), 0);
            DUE.is("4: not even 0 for " + a, x.far(a, a, 0), OUTSIDE);
            DUE.is("4: nor 9 for " + a, x.far(a, a, 9), OUTSIDE);
            DUE.is("4: it is 0 yet " + a, x.told(100 + 11 * a), 0);
        }
    }

    /** "(0 to 9)". */
    private static void farLeastAndMost() {
        WordRents x = new WordRents();
        DUE.is("4: 0", x.far(0, 4, 0), 1);
        DUE.is("4: 9", x.far(0, 4, 9), 0);
        DUE.is("4: 10", x.far(0, 4, 10), OUTSIDE);
        DUE.is("4: -1", x.far(0, 4, -1), OUTSIDE);
        DUE.is("4: it was 9", x.far(0, 4, 9), 9);
        DUE.is("4: MEANING 5", x.far(5, 0, 1), OUTSIDE);
        DUE.is("4: MEANING -1", x.far(0, -1, 1), OUTSIDE);
        DUE.is("4: twice 5", x.far(5, 5, 1), OUTSIDE);
    }

    /** "alike both ways". */
    private static void farAlikeBothWays() {
        WordRents x = new WordRents();
        int v = 0;
        for (int a = 0; a < 5; a++) {
            for (int b = 0; b < a; b++) {
                x.far(a, b, v % 10);
                DUE.is("4: " + a + " to " + b, x.told(100 + 10 * a + b), v % 10);
                DUE.is("4: " + b + " to " + a, x.told(100 + 10 * b + a), v % 10);
                v++;
            }
        }
        DUE.is("4: the last one, from the other side", x.far(3, 4, 1), 9);
    }

    /** "CAP ... 1 to 99, 20 at first". */
    private static void capLeastAndMost() {
        WordRents x = new WordRents();
        DUE.is("5: it was", x.set(0, 1), 20);
        DUE.is("5: 0", x.set(0, 0), OUTSIDE);
        DUE.is("5: 99", x.set(0, 99), 1);
        DUE.is("5: 100", x.set(0, 100), OUTSIDE);
        DUE.is("5: it is 99", x.told(2), 99);
        DUE.is("5: DRIFT stays", x.told(3), 3);
    }

    /** "DRIFT (1 to 9, 3 at first)". */
    private static void driftLeastAndMost() {
        WordRents x = new WordRents();
        DUE.is("5: it was", x.set(1, 1), 3);
        DUE.is("5: 0", x.set(1, 0), OUTSIDE);
        DUE.is("5: 9", x.set(1, 9), 1);
        DUE.is("5: 10", x.set(1, 10), OUTSIDE);
        DUE.is("5: it is 9", x.told(3), 9);
        DUE.is("5: CAP stays", x.told(2), 20);
    }

    /** "codes 33 to 126". */
    private static void signsLeastAndMost() {
        WordRents x = new WordRents();
        int signs = 0;
        for (int code = -2; code <= 260; code++) {
            boolean taken = code >= 33 && code <= 126;
            if (signs == 60 && taken) {
                x.wipe();
                signs = 0;
            }
            signs += taken ? 1 : 0;
            DUE.is("6: code " + code, x.say(code), taken ? signs : OUTSIDE);
        }
    }

    /** "60 SIGNS at most": the 60th is taken, the 61st is not, and the text stays as it was. */
    private static void sixtySigns() {
        WordRents x = new WordRents();
        x.word(0, 0, 0, 0, 0);
        for (int i = 1; i <= 57; i++) {
            DUE.is("6: sign " + i, x.say('.'), i);
        }
        DUE.is("6: 58, 59, 60", x.say('2') + x.say('a') + x.say('+'), 58 + 59 + 60);
        DUE.is("6: 61", x.say('.'), FULL);
        DUE.is("6: 62", x.say('!'), FULL);
        DUE.is("8: the text stands", x.fault(1), NONE);
        DUE.is("15: all of it is DONE", x.done(), 58);
        DUE.is("15: the last ACT too", x.state(0, 1), 2);
    }

    /** "Signs go: how many there were": 60, and then there is room for 60. */
    private static void fullThenWiped() {
        WordRents x = new WordRents();
        for (int turn = 0; turn < 3; turn++) {
            for (int i = 1; i <= 60; i++) {
                x.say('~');
            }
            DUE.is("6: full", x.say('~'), FULL);
            DUE.is("7: all go", x.wipe(), 60);
            DUE.is("34: none", x.told(0), 0);
        }
    }

    private static void wipeOfNothing() {
        WordRents x = new WordRents();
        DUE.is("7: none", x.wipe(), 0);
        DUE.is("7: none again", x.wipe(), 0);
        x.say(33);
        DUE.is("7: one", x.wipe(), 1);
        DUE.is("7: none then", x.wipe(), 0);
        DUE.is("6: from the first on", x.say(126), 1);
    }

    private static void fault(WordRents x, int how, String text, int want) {
        Due.say(x, text);
        DUE.is("8: " + how + " of '" + text + "'", x.fault(how), want);
    }

    /** "the number of signs, if more must come": of an empty PAD 0, with WORDS and without. */
    private static void emptyPadHasAFault() {
        fault(new WordRents(), 0, "", 0);
        fault(WordsTest.fourWords(), 0, "", 0);
    }

    /** "the number of signs, if more must come": 1, 2 and 4 WORDS are too few, 3 and 5 are not. */
    private static void moreMustCome() {
        WordRents x = WordsTest.fourWords();
        fault(x, 0, "b", 1);
        fault(x, 0, "bc", 2);
        fault(x, 0, "bca", NONE);
        fault(x, 0, "bcad", 4);
        fault(x, 0, "bcada", NONE);
    }

    /** Behind noun, verb, noun, joiner, noun nothing can stand: the fault is at 5, to the last of 60 signs. */
    private static void nothingBehindTheFifth() {
        for (char c = 33; c <= 126; c++) {
            fault(WordsTest.fourWords(), 0, "bcada" + c, 5);
        }
        WordRents x = WordsTest.fourWords();
        fault(x, 0, "bcada" + "da".repeat(27) + "d", 5);
        fault(x, 0, "bcada".repeat(12), 5);
    }

    /** "the place (from 0 on) of the first sign that can not stand there": a later one does not matter. */
    private static void firstSignThatCanNotStand() {
        WordRents x = WordsTest.fourWords();
        fault(x, 0, "!!!!!", 0);
        fault(x, 0, "a!!!!", 1);
        fault(x, 0, "ac!!!", 2);
        fault(x, 0, "aca!!", 3);
        fault(x, 0, "acad!", 4);
        fault(x, 0, "acada!!", 5);
        fault(x, 0, "cca", 0);
        fault(x, 0, "aaa", 1);
        fault(x, 0, "acc", 2);
        fault(x, 0, "acab", 3);
        fault(x, 0, "acadd", 4);
    }

    /** Letters are a to h: the signs on both sides of them, and the great letters, are none. */
    private static void lettersNextToWords() {
        WordRents x = new WordRents();
        for (int w = 0; w < 8; w++) {
            x.word(w, w == 3 ? 1 : 0, 0, 0, 0);
        }
        fault(x, 0, "ada", NONE);
        fault(x, 0, "hdh", NONE);
        fault(x, 0, "`da", 0);
        fault(x, 0, "ida", 0);
        fault(x, 0, "Ada", 0);
        fault(x, 0, "aDa", 1);
        fault(x, 0, "adH", 2);
        fault(x, 0, "0d0", 0);
        fault(x, 0, "ad~", 2);
        fault(x, 0, "ad!", 2);
    }

    /** "letters of WORDS that there are". */
    private static void wordsThatThereAre() {
        WordRents x = WordsTest.fourWords();
        Due.say(x, "acadb");
        DUE.is("8: all there", x.fault(0), NONE);
        x.strikeOut(1);
        DUE.is("8: without b", x.fault(0), 4);
        x.strikeOut(3);
        DUE.is("8: without d", x.fault(0), 3);
        x.strikeOut(2);
        DUE.is("8: without c", x.fault(0), 1);
        x.strikeOut(0);
        DUE.is("8: without a", x.fault(0), 0);
        x.word(0, 0, 0, 0, 0);
        DUE.is("8: a is there again", x.fault(0), 1);
    }

    /** LEASES may be of no ACTS at all; they need no WORDS, for a FAULT is one of the text alone. */
    private static void emptyLeases() {
        WordRents x = new WordRents();
        fault(x, 1, "", NONE);
        fault(x, 1, "0a+", NONE);
        fault(x, 1, "3hv", NONE);
        DUE.is("14: but there is no such WORD", x.judge(1), 1);
    }

    /** "the number of signs, if more must come": behind a digit, and behind a letter. */
    private static void leasesMustGoOn() {
        WordRents x = new WordRents();
        fault(x, 1, "0", 1);
        fault(x, 1, "0a", 2);
        fault(x, 1, "0a+", NONE);
        fault(x, 1, "0a+1", 4);
        fault(x, 1, "0a+1b", 5);
        fault(x, 1, ".0", 2);
        fault(x, 1, ".0a", 3);
    }

    /** The text may end with the 60th sign, or need a 61st that can not come. */
    private static void leasesFillThePad() {
        WordRents x = new WordRents();
        fault(x, 1, "0a+".repeat(20), NONE);
        fault(x, 1, ".".repeat(60), NONE);
        fault(x, 1, ".".repeat(59) + "0", 60);
        x = new WordRents();
        fault(x, 1, ".".repeat(58) + "0a", 60);
        fault(x, 1, ".".repeat(59) + "a", 59);
        fault(x, 1, ".".repeat(58) + "0.", 59);
    }

    /** Of all 94 signs only the told ones stand at each of the three places. */
    private static void signsNextToLeases() {
        for (char c = 33; c <= 126; c++) {
            WordRents x = new WordRents();
            boolean digit = c >= '0' && c <= '3';
            fault(x, 1, "" + c, digit ? 1 : c == '.' ? NONE : 0);
            fault(x, 1, "0" + c, c >= 'a' && c <= 'h' ? 2 : 1);
            fault(x, 1, "0a" + c, "+-^v".indexOf(c) >= 0 ? NONE : 2);
            fault(x, 1, "0a+" + c, digit ? 4 : c == '.' ? NONE : 3);
        }
    }

    /** "a digit 0 to 3 (a FIRM)": each of the four does what it says, 4 (nobody) does nothing. */
    private static void firmsOfLeases() {
        for (int firm = 0; firm < 4; firm++) {
            WordRents x = new WordRents();
            x.word(0, 0, 0, 0, 10);
            Due.say(x, firm + "a+" + firm + "a^");
            DUE.is("15: FIRM " + firm, x.done(), 2);
            DUE.is("16: its WORD", x.state(0, 1) * 100 + x.state(0, 0), firm * 100 + 11);
        }
        WordRents x = new WordRents();
        x.word(0, 0, 0, 0, 10);
        Due.say(x, "4a+");
        DUE.is("15: nobody takes no lease", x.done(), NO);
    }
}

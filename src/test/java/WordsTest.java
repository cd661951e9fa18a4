/** Promises 1 to 8: a new object, words, far, set, the pad, the fault. */
public final class WordsTest {
    private static final int MIN = Integer.MIN_VALUE, MAX = Integer.MAX_VALUE;
    private static final Due DUE = new Due("WordsTest");

    public static void main(String[] args) {
        newObject();
        word();
        wordAnew();
        strikeOut();
        far();
        set();
        say();
        wipe();
        faultOfSentence();
        faultFollowsWords();
        faultOfLeases();
        DUE.end();
    }

    private static void newObject() {
        WordRents x = new WordRents();
        DUE.is("1: signs", x.told(0), 0);
        DUE.is("1: WORDS", x.told(1), 0);
        DUE.is("1: CAP", x.told(2), 20);
        DUE.is("1: DRIFT", x.told(3), 3);
        DUE.is("1: DAYS", x.told(4), 0);
        DUE.is("1: the LIST", x.told(5), 0);
        DUE.is("1: SIGHTS", x.told(6), 0);
        for (int w = 0; w < 8; w++) {
            DUE.is("1: no WORD " + w, x.state(w, 0), WordRents.UNKNOWN);
        }
        for (int a = 0; a < 5; a++) {
            for (int b = 0; b < 5; b++) {
                DUE.is("1: FAR " + a + " " + b, x.told(100 + 10 * a + b), a == b ? 0 : 1);
            }
        }
        DUE.is("1: IMAGE 0", x.restore(0), WordRents.STATE);
        DUE.is("1: IMAGE 1", x.restore(1), WordRents.STATE);
        WordRents other = new WordRents();
        x.word(3, 1, 1, 1, 1);
        DUE.is("1: objects share nothing", other.told(1), 0);
    }

    private static void word() {
        WordRents x = new WordRents();
        DUE.is("2: the first", x.word(7, 2, 4, 3, 99), 1);
        DUE.is("2: another", x.word(0, 0, 0, 0, 0), 2);
        DUE.is("2: which there are", x.told(1), 129);
        DUE.is("2: RENT", x.state(7, 0), 99);
        DUE.is("2: HOLDER", x.state(7, 1), 4);
        DUE.is("2: MEANING", x.state(7, 2), 4);
        DUE.is("2: SORT", x.told(80), 2);
        DUE.is("2: RHYME", x.told(81), 3);
        for (int bad : new int[] {-1, 8, MIN, MAX}) {
            DUE.is("2: WORD " + bad, x.word(bad, 0, 0, 0, 0), WordRents.UNKNOWN);
            DUE.is("2: UNKNOWN is first " + bad, x.word(bad, 9, 9, 9, 999), WordRents.UNKNOWN);
        }
        for (int bad : new int[] {-1, 100, MIN, MAX}) {
            DUE.is("2: SORT " + bad, x.word(0, bad, 0, 0, 0), WordRents.OUTSIDE);
            DUE.is("2: MEANING " + bad, x.word(0, 0, bad, 0, 0), WordRents.OUTSIDE);
            DUE.is("2: RHYME " + bad, x.word(0, 0, 0, bad, 0), WordRents.OUTSIDE);
            DUE.is("2: RENT " + bad, x.word(0, 0, 0, 0, bad), WordRents.OUTSIDE);
        }
        DUE.is("2: SORT 3", x.word(0, 3, 0, 0, 0), WordRents.OUTSIDE);
        DUE.is("2: MEANING 5", x.word(0, 0, 5, 0, 0), WordRents.OUTSIDE);
        DUE.is("2: RHYME 4", x.word(0, 0, 0, 4, 0), WordRents.OUTSIDE);
        DUE.is("2: refused, it does not come", x.word(1, 0, 0, 0, 100), WordRents.OUTSIDE);
        DUE.is("2: refused, nothing changes", x.told(1), 129);
    }

    private static void wordAnew() {
        WordRents x = new WordRents();
        x.word(2, 0, 1, 2, 30);
        DUE.lease(x, "3c+");
        DUE.is("2: held", x.state(2, 1), 3);
        DUE.is("2: refused", x.word(2, 0, 1, 2, 100), WordRents.OUTSIDE);
        DUE.is("2: refused, still held", x.state(2, 1), 3);
        DUE.is("2: anew, as many", x.word(2, 1, 3, 0, 5), 1);
        DUE.is("2: anew, nobody's", x.state(2, 1), 4);
        DUE.is("2: anew, RENT", x.state(2, 0), 5);
        DUE.is("2: anew, MEANING", x.state(2, 2), 3);
        DUE.is("2: anew, SORT", x.told(30), 1);
        DUE.is("2: anew, RHYME", x.told(31), 0);
    }

    private static void strikeOut() {
        WordRents x = new WordRents();
        DUE.is("3: there was none", x.strikeOut(0), WordRents.UNKNOWN);
        x.word(0, 0, 0, 0, 1);
        x.word(4, 1, 0, 0, 1);
        DUE.lease(x, "1a+");
        DUE.is("3: not there", x.strikeOut(1), WordRents.UNKNOWN);
        DUE.is("3: -1", x.strikeOut(-1), WordRents.UNKNOWN);
        DUE.is("3: 8", x.strikeOut(8), WordRents.UNKNOWN);
        DUE.is("3: as wide as an int", x.strikeOut(32), WordRents.UNKNOWN);
        DUE.is("3: MIN", x.strikeOut(MIN), WordRents.UNKNOWN);
        DUE.is("3: one left", x.strikeOut(0), 1);
        DUE.is("3: it is gone", x.told(1), 16);
        DUE.is("3: twice", x.strikeOut(0), WordRents.UNKNOWN);
        DUE.is("3: its SORT is not told", x.told(10), WordRents.OUTSIDE);
        DUE.is("3: it comes again", x.word(0, 0, 0, 0, 1), 2);
        DUE.is("3: and nobody holds it", x.state(0, 1), 4);
        DUE.is("3: none left", x.strikeOut(0) * 10 + x.strikeOut(4), 10);
    }

    private static void far() {
        WordRents x = new WordRents();
        DUE.is("4: it was 1", x.far(1, 3, 9), 1);
        DUE.is("4: alike both ways", x.told(131), 9);
        DUE.is("4: and this way", x.told(113), 9);
        DUE.is("4: it was 9", x.far(3, 1, 0), 9);
        DUE.is("4: 0 this way", x.told(113), 0);
        DUE.is("4: others stay", x.told(112), 1);
        DUE.is("4: both are one", x.far(2, 2, 0), WordRents.OUTSIDE);
        for (int bad : new int[] {-1, 5, MIN, MAX}) {
            DUE.is("4: MEANING " + bad, x.far(bad, 0, 1), WordRents.OUTSIDE);
            DUE.is("4: other " + bad, x.far(0, bad, 1), WordRents.OUTSIDE);
        }
        DUE.is("4: -1", x.far(0, 1, -1), WordRents.OUTSIDE);
        DUE.is("4: 10", x.far(0, 1, 10), WordRents.OUTSIDE);
        DUE.is("4: refused, nothing changes", x.told(101), 1);
    }

    private static void set() {
        WordRents x = new WordRents();
        DUE.is("5: CAP was", x.set(0, 99), 20);
        DUE.is("5: CAP least", x.set(0, 1), 99);
        DUE.is("5: CAP told", x.told(2), 1);
        DUE.is("5: DRIFT was", x.set(1, 9), 3);
        DUE.is("5: DRIFT least", x.set(1, 1), 9);
        DUE.is("5: DRIFT told", x.told(3), 1);
        DUE.is("5: CAP 0", x.set(0, 0), WordRents.OUTSIDE);
        DUE.is("5: CAP 100", x.set(0, 100), WordRents.OUTSIDE);
        DUE.is("5: DRIFT 0", x.set(1, 0), WordRents.OUTSIDE);
        DUE.is("5: DRIFT 10", x.set(1, 10), WordRents.OUTSIDE);
        DUE.is("5: which -1", x.set(-1, 1), WordRents.OUTSIDE);
        DUE.is("5: which 2", x.set(2, 1), WordRents.OUTSIDE);
        DUE.is("5: nothing changes", x.told(2) * 10 + x.told(3), 11);
    }

    private static void say() {
        WordRents x = new WordRents();
        DUE.is("6: 32", x.say(32), WordRents.OUTSIDE);
        DUE.is("6: 127", x.say(127), WordRents.OUTSIDE);
        DUE.is("6: MIN", x.say(MIN), WordRents.OUTSIDE);
        DUE.is("6: as a char 33", x.say(33 + 65536), WordRents.OUTSIDE);
        DUE.is("6: 33", x.say(33), 1);
        DUE.is("6: 126", x.say(126), 2);
        for (int i = 3; i <= 60; i++) {
            DUE.is("6: sign " + i, x.say('.'), i);
        }
        DUE.is("6: full", x.say('.'), WordRents.FULL);
        DUE.is("6: OUTSIDE is first", x.say(32), WordRents.OUTSIDE);
        DUE.is("6: 60 stay", x.told(0), 60);
    }

    private static void wipe() {
        WordRents x = new WordRents();
        DUE.is("7: nothing", x.wipe(), 0);
        Due.say(x, "abc");
        DUE.is("7: three", x.wipe(), 3);
        DUE.is("7: then none", x.told(0), 0);
        for (int i = 0; i < 61; i++) {
            x.say('.');
        }
        DUE.is("7: sixty", x.wipe(), 60);
        DUE.is("7: and there is room", x.say('a'), 1);
    }

    /** a, b are nouns; c is a verb; d is a joiner. */
    static WordRents fourWords() {
        WordRents x = new WordRents();
        x.word(0, 0, 0, 0, 10);
        x.word(1, 0, 1, 1, 6);
        x.word(2, 1, 2, 0, 8);
        x.word(3, 2, 3, 2, 3);
        return x;
    }

    private static void fault(WordRents x, int how, String text, int want) {
        Due.say(x, text);
        DUE.is("8: " + how + " of '" + text + "'", x.fault(how), want);
    }

    private static void faultOfSentence() {
        WordRents x = fourWords();
        fault(x, 0, "", 0);
        fault(x, 0, "a", 1);
        fault(x, 0, "ac", 2);
        fault(x, 0, "aca", WordRents.NONE);
        fault(x, 0, "acb", WordRents.NONE);
        fault(x, 0, "acad", 4);
        fault(x, 0, "acadb", WordRents.NONE);
        fault(x, 0, "acadba", 5);
        fault(x, 0, "acadbdb", 5);
        fault(x, 0, "acadb!", 5);
        fault(x, 0, "c", 0);
        fault(x, 0, "d", 0);
        fault(x, 0, "ab", 1);
        fault(x, 0, "ad", 1);
        fault(x, 0, "acc", 2);
        fault(x, 0, "acd", 2);
        fault(x, 0, "acaa", 3);
        fault(x, 0, "acac", 3);
        fault(x, 0, "acadc", 4);
        fault(x, 0, "acadd", 4);
        fault(x, 0, "e", 0);
        fault(x, 0, "Ac", 0);
        fault(x, 0, "i", 0);
        fault(x, 0, "~", 0);
        fault(x, 0, "aCa", 1);
        DUE.is("8: how -1", x.fault(-1), WordRents.OUTSIDE);
        DUE.is("8: how 2", x.fault(2), WordRents.OUTSIDE);
        DUE.is("8: the PAD stays", x.told(0), 3);
    }

    private static void faultFollowsWords() {
        WordRents x = fourWords();
        fault(x, 0, "acb", WordRents.NONE);
        x.strikeOut(2);
        DUE.is("8: the verb is gone", x.fault(0), 1);
        x.word(2, 2, 0, 0, 0);
        DUE.is("8: it is a joiner now", x.fault(0), 1);
        x.word(2, 1, 0, 0, 0);
        DUE.is("8: a verb again", x.fault(0), WordRents.NONE);
        x.word(1, 1, 0, 0, 0);
        DUE.is("8: the last is a verb", x.fault(0), 2);
        x.word(7, 0, 0, 0, 0);
        fault(x, 0, "hch", WordRents.NONE);
    }

    private static void faultOfLeases() {
        WordRents x = new WordRents();
        fault(x, 1, "", WordRents.NONE);
        fault(x, 1, ".", WordRents.NONE);
        fault(x, 1, "0a+", WordRents.NONE);
        fault(x, 1, "3h-", WordRents.NONE);
        fault(x, 1, "1b^2cv.", WordRents.NONE);
        fault(x, 1, "4a+", 0);
        fault(x, 1, "/a+", 0);
        fault(x, 1, "a", 0);
        fault(x, 1, "+", 0);
        fault(x, 1, "0", 1);
        fault(x, 1, "0i+", 1);
        fault(x, 1, "0`+", 1);
        fault(x, 1, "0.", 1);
        fault(x, 1, "00", 1);
        fault(x, 1, "0a", 2);
        fault(x, 1, "0a.", 2);
        fault(x, 1, "0a*", 2);
        fault(x, 1, "0aV", 2);
        fault(x, 1, "0aa", 2);
        fault(x, 1, "0a++", 3);
        fault(x, 1, "..0a", 4);
        fault(x, 1, "0a+.0", 5);
        StringBuilder days = new StringBuilder();
        for (int i = 0; i < 60; i++) {
            days.append('.');
        }
        fault(x, 1, days.toString(), WordRents.NONE);
        fault(x, 1, days.substring(0, 59) + "0", 60);
    }
}

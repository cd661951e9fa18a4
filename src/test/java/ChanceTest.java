/** Promises 29 to 34: let, rests, year, image, restore, told. */
public final class ChanceTest {
    private static final int MIN = Integer.MIN_VALUE, MAX = Integer.MAX_VALUE;
    private static final Due DUE = new Due("ChanceTest");

    public static void main(String[] args) {
        letSentence();
        letSome();
        letOfList();
        letOfWordsNoMore();
        letRefusals();
        rests();
        restsRefusals();
        yearByHand();
        yearTakesAndGives();
        yearDrifts();
        yearRefusals();
        image();
        imagesAreTwo();
        imageKeepsAll();
        told();
        DUE.end();
    }

    private static void let(WordRents x, int t, int which, long upper, long lower) {
        DUE.is("29: upper of " + t + "," + which, x.let(t, which, 0), upper);
        DUE.is("29: lower of " + t + "," + which, x.let(t, which, 1), lower);
    }

    private static void letSentence() {
        WordRents x = WordsTest.fourWords();
        Due.say(x, "aca");
        let(x, 0, 0, 0, 1);
        let(x, 1, 0, 1, 100);
        let(x, 2, 0, 1, 25);
        let(x, 10, 0, 1, 1);
        Due.say(x, "acadb");
        let(x, 1, 0, 1, 10000);
        let(x, 9, 0, 6561, 10000);
        let(x, 5, 0, 1, 16);
    }

    private static void letSome() {
        WordRents x = new WordRents();
        let(x, 10, 1, 0, 1);
        x.word(0, 0, 0, 0, 0);
        let(x, 10, 1, 0, 1);
        x.word(1, 1, 0, 0, 0);
        let(x, 3, 1, 9, 100);
        x.word(2, 2, 0, 0, 0);
        let(x, 3, 1, 9, 100);
        x.word(3, 0, 0, 0, 0);
        let(x, 5, 1, 3, 8);
        x.word(4, 1, 0, 0, 0);
        let(x, 5, 1, 9, 16);
        let(x, 10, 1, 1, 1);
        let(x, 0, 1, 0, 1);
        for (int w = 5; w < 8; w++) {
            x.word(w, 1, 0, 0, 0);
        }
        // (1 - (9/10)^2) (1 - (9/10)^5)
        let(x, 1, 1, 19L * 40951, 10000000);
    }

    private static void letOfList() {
        WordRents x = WordsTest.fourWords();
        let(x, 5, 2, 0, 1);
        Due.say(x, "aca");
        x.list();
        let(x, 5, 2, 1, 4);
        Due.say(x, "bcb");
        x.list();
        let(x, 5, 2, 3, 8);
        Due.say(x, "acadb");
        x.list();
        let(x, 5, 2, 3, 8);
        Due.say(x, "aca");
        x.list();
        let(x, 5, 2, 3, 8);
        let(x, 10, 2, 1, 1);
        let(x, 0, 2, 0, 1);
        // c and (a or b)
        let(x, 1, 2, 19, 1000);
    }

    /** What needs a WORD that is no more can not be said; the rest of the LIST still can, and all of it once it is back. */
    private static void letOfWordsNoMore() {
        WordRents x = WordsTest.fourWords();
        for (String text : new String[] {"aca", "bcb", "acadb"}) {
            Due.say(x, text);
            x.list();
        }
        x.image(0);
        x.strikeOut(3);
        let(x, 5, 2, 3, 8);
        x.strikeOut(0);
        let(x, 5, 2, 1, 4);
        let(x, 10, 2, 1, 1);
        x.strikeOut(1);
        for (int t = 0; t <= 10; t++) {
            let(x, t, 2, 0, 1);
        }
        DUE.is("29: all of it is still told", x.told(5), 3);
        x.word(0, 0, 4, 3, 99);
        let(x, 5, 2, 1, 4);
        x.word(2, 0, 0, 0, 0);
        let(x, 5, 2, 1, 4);
        x.strikeOut(2);
        let(x, 10, 2, 0, 1);
        x.restore(0);
        let(x, 5, 2, 3, 8);
    }

    private static void letRefusals() {
        WordRents x = WordsTest.fourWords();
        long outside = -1000000000000000002L;
        long no = -1000000000000000005L;
        for (int bad : new int[] {-1, 11, MIN, MAX}) {
            DUE.is("29: t " + bad, x.let(bad, 0, 0), outside);
            DUE.is("29: which " + bad, x.let(5, bad, 0), outside);
            DUE.is("29: part " + bad, x.let(5, 1, bad), outside);
        }
        DUE.is("29: which 3", x.let(5, 3, 0), outside);
        DUE.is("29: part 2, OUTSIDE is first", x.let(5, 0, 2), outside);
        DUE.is("29: a FAULT", x.let(5, 0, 0), no);
        DUE.is("29: a FAULT, lower", x.let(5, 0, 1), no);
        Due.say(x, "ac");
        DUE.is("29: a FAULT yet", x.let(5, 0, 1), no);
        DUE.is("29: nothing to the others", x.let(5, 1, 0), 3);
        DUE.is("29: nor to the LIST", x.let(5, 2, 0), 0);
    }

    private static void rests() {
        WordRents x = WordsTest.fourWords();
        DUE.lease(x, "0a+3b+");
        for (int turn = 0; turn < 2; turn++) {
            DUE.is("30: how many", x.rests(turn, 1 - turn, -1), 2);
            DUE.is("30: the first", x.rests(turn, 1 - turn, 0), 0);
            DUE.is("30: the second", x.rests(turn, 1 - turn, 1), 11);
            DUE.is("30: no third", x.rests(turn, 1 - turn, 2), WordRents.NONE);
            DUE.is("30: none at MAX", x.rests(turn, 1 - turn, MAX), WordRents.NONE);
            DUE.is("30: none ahead of the first", x.rests(turn, 1 - turn, -2), WordRents.NONE);
        }
        DUE.is("30: RENTS stay", x.state(0, 0), 10);
    }

    private static void restsRefusals() {
        WordRents x = WordsTest.fourWords();
        x.word(4, 0, 0, 0, 1);
        DUE.lease(x, "0a+3b+1c+0e+");
        DUE.is("30: both are one", x.rests(0, 0, 0), WordRents.UNKNOWN);
        DUE.is("30: no such other", x.rests(0, 5, 0), WordRents.UNKNOWN);
        DUE.is("30: no such WORD", x.rests(5, 0, 0), WordRents.UNKNOWN);
        DUE.is("30: -1", x.rests(-1, 0, 0), WordRents.UNKNOWN);
        DUE.is("30: 8", x.rests(0, 8, 0), WordRents.UNKNOWN);
        DUE.is("30: SORTS differ", x.rests(0, 2, -1), WordRents.STATE);
        DUE.is("30: HOLDERS are alike", x.rests(0, 4, -1), WordRents.STATE);
        DUE.lease(x, "0e-");
        DUE.is("30: nobody's", x.rests(0, 4, -1), WordRents.STATE);
        DUE.is("30: nobody's, the first", x.rests(4, 0, 7), WordRents.STATE);
        x.word(0, 0, 0, 0, 1);
        DUE.is("30: both nobody's", x.rests(0, 4, 0), WordRents.STATE);
    }

    private static void year(WordRents x, int seed, int m, int taken, int given, int rents) {
        String call = "31: " + seed + " for " + m;
        DUE.is(call + " taken", x.year(seed, m, 0), taken);
        DUE.is(call + " given up", x.year(seed, m, 1), given);
        DUE.is(call + " RENTS", x.year(seed, m, 2), rents);
    }

    /** From 0: x is 74 (FIRM 2, WORD 2), then 5624 (FIRM 0, WORD 6), then 28652 (FIRM 0, WORD 3). */
    private static void yearByHand() {
        WordRents x = new WordRents();
        year(x, 0, 99, 0, 0, 0);
        x.word(2, 0, 0, 0, 10);
        x.word(6, 1, 0, 0, 10);
        x.word(3, 2, 0, 0, 30);
        year(x, 0, 1, 1, 0, 11 + 10 + 30);
        year(x, 0, 2, 2, 0, 12 + 11 + 30);
        year(x, 0, 3, 3, 0, 13 + 12 + 30);
        DUE.is("31: nothing is DONE", x.told(4) * 10 + x.state(2, 1), 4);
        DUE.lease(x, "2c+0g+");
        year(x, 0, 1, 0, 1, 10 + 11 + 30);
        year(x, 0, 2, 0, 2, 10 + 11 + 30);
        x.word(2, 0, 0, 0, 10);
        DUE.lease(x, "1c+");
        year(x, 0, 1, 0, 0, 11 + 11 + 30);
    }

    private static void yearTakesAndGives() {
        WordRents x = WordsTest.fourWords();
        DUE.lease(x, "0a+1b+0c+");
        year(x, 77, 99, 7, 7, 77);
        year(x, 5, 40, 5, 4, 67);
    }

    /** Only by the drift of a nobody's WORD does the RENT of the held one change its way. */
    private static void yearDrifts() {
        WordRents x = new WordRents();
        x.word(0, 0, 0, 0, 10);
        x.word(1, 0, 1, 0, 50);
        x.far(0, 1, 9);
        x.far(0, 2, 9);
        x.far(0, 3, 9);
        x.set(0, 99);
        DUE.lease(x, "0a+");
        // From 0 the first six draws are of WORDS 2, 6, 3, 7, 4, 3: none of them is there.
        year(x, 0, 6, 0, 0, 16 + 50);
        x.far(0, 2, 1);
        year(x, 0, 3, 0, 0, 13 + 50);
        year(x, 0, 4, 0, 0, 12 + 50);
        DUE.lease(x, "..");
        year(x, 0, 1, 0, 0, 13 + 50);
        year(x, 0, 2, 0, 0, 12 + 50);
    }

    private static void yearRefusals() {
        WordRents x = new WordRents();
        DUE.is("31: seed -1", x.year(-1, 1, 0), WordRents.OUTSIDE);
        DUE.is("31: seed 10000", x.year(10000, 1, 0), WordRents.OUTSIDE);
        DUE.is("31: seed 9999", x.year(9999, 1, 0), 0);
        DUE.is("31: 0 DAYS", x.year(0, 0, 0), WordRents.OUTSIDE);
        DUE.is("31: 100 DAYS", x.year(0, 100, 0), WordRents.OUTSIDE);
        DUE.is("31: 99 DAYS", x.year(0, 99, 2), 0);
        DUE.is("31: what -1", x.year(0, 1, -1), WordRents.OUTSIDE);
        DUE.is("31: what 3", x.year(0, 1, 3), WordRents.OUTSIDE);
    }

    private static void image() {
        WordRents x = new WordRents();
        for (int bad : new int[] {-1, 2, MIN, MAX}) {
            DUE.is("32: " + bad, x.image(bad), WordRents.OUTSIDE);
            DUE.is("33: " + bad, x.restore(bad), WordRents.OUTSIDE);
        }
        DUE.is("33: it was not kept", x.restore(1), WordRents.STATE);
        DUE.is("32: kept", x.image(1), 1);
        DUE.is("33: the other was not", x.restore(0), WordRents.STATE);
        x.word(0, 0, 0, 0, 0);
        DUE.is("33: it is as it was", x.restore(1), 1);
        DUE.is("33: no WORDS then", x.told(1), 0);
        x.word(3, 0, 0, 0, 0);
        DUE.is("33: again", x.restore(1), 1);
        DUE.is("33: no WORDS again", x.told(1), 0);
    }

    private static void imagesAreTwo() {
        WordRents x = new WordRents();
        x.word(0, 0, 0, 0, 0);
        x.image(0);
        x.word(1, 0, 0, 0, 0);
        x.image(1);
        x.word(2, 0, 0, 0, 0);
        x.restore(0);
        DUE.is("33: the first", x.told(1), 1);
        x.restore(1);
        DUE.is("33: the second is kept yet", x.told(1), 3);
        x.image(0);
        x.restore(0);
        DUE.is("32: kept over the old one", x.told(1), 3);
    }

    private static void imageKeepsAll() {
        WordRents x = WordsTest.fourWords();
        DUE.lease(x, "2b+3c+.");
        x.far(1, 2, 7);
        x.set(0, 33);
        x.set(1, 4);
        Due.say(x, "bcb");
        x.list();
        x.seen(2, 4);
        Due.say(x, "acb");
        x.image(0);
        DUE.is("32: the PAD stays", x.told(0), 3);
        x.word(1, 1, 1, 3, 1);
        x.strikeOut(0);
        DUE.lease(x, "..1b+");
        x.far(1, 2, 2);
        x.set(0, 44);
        x.set(1, 5);
        x.forget(0);
        x.forget(1);
        x.seen(3, 200);
        x.seen(1, 4);
        x.word(4, 0, 0, 0, 0);
        Due.say(x, "ece");
        x.word(2, 1, 0, 0, 0);
        x.list();
        Due.say(x, "ece");
        DUE.is("32: two are told since", x.list(), 2);
        Due.say(x, "bcbdb");
        DUE.is("33: all but the PAD", x.restore(0), 1);
        DUE.is("33: the PAD stays as it is", x.told(0), 5);
        DUE.is("33: WORDS", x.told(1), 15);
        DUE.is("33: CAP", x.told(2), 33);
        DUE.is("33: DRIFT", x.told(3), 4);
        DUE.is("33: DAYS", x.told(4), 1);
        DUE.is("33: the LIST", x.told(5), 1);
        DUE.is("33: which it is", x.held(1), 2);
        DUE.is("33: SIGHTS", x.told(6), 1);
        DUE.is("33: FAR", x.told(121), 7);
        DUE.is("33: SORT", x.told(20), 0);
        DUE.is("33: RHYME", x.told(21), 1);
        DUE.is("33: RENT", x.state(1, 0), 5);
        DUE.is("33: HOLDER", x.state(1, 1), 2);
        DUE.is("33: MEANING", x.state(2, 2), 2);
        DUE.is("33: the SIGHT's FIRM and set", x.spoke(0, 0), 4);
        DUE.is("33: none but that SIGHT", x.spoke(1, 0), WordRents.OUTSIDE);
    }

    private static void told() {
        WordRents x = WordsTest.fourWords();
        Due.say(x, "!!!!");
        x.far(4, 3, 6);
        DUE.is("34: signs", x.told(0), 4);
        DUE.is("34: WORDS", x.told(1), 15);
        for (int bad : new int[] {-1, 7, 8, 9, 12, 19, 42, 50, 51, 80, 90, 91, 99, 105, 109, 145, 150, 1000, -10, -90, MIN, MAX}) {
            DUE.is("34: " + bad, x.told(bad), WordRents.OUTSIDE);
        }
        DUE.is("34: SORT of d", x.told(40), 2);
        DUE.is("34: RHYME of d", x.told(41), 2);
        DUE.is("34: SORT of a", x.told(10), 0);
        DUE.is("34: RHYME of a", x.told(11), 0);
        DUE.is("34: FAR", x.told(143), 6);
        DUE.is("34: FAR the other way", x.told(134), 6);
        DUE.is("34: FAR of one and itself", x.told(144), 0);
        x.word(7, 1, 0, 3, 0);
        DUE.is("34: SORT of h", x.told(80), 1);
        DUE.is("34: RHYME of h", x.told(81), 3);
    }
}

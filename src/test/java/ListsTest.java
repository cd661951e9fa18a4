/** Promises 21 to 28: list, held, strike, worst, seen, forget, spoke, who. */
public final class ListsTest {
    private static final int MIN = Integer.MIN_VALUE, MAX = Integer.MAX_VALUE;
    private static final Due DUE = new Due("ListsTest");

    public static void main(String[] args) {
        list();
        held();
        listStaysAsTold();
        strike();
        worst();
        seen();
        forget();
        spoke();
        spokeForNothing();
        who();
        DUE.end();
    }

    private static void list(WordRents x, String text) {
        Due.say(x, text);
        DUE.isTrue("21: told " + text, x.list() > 0);
    }

    private static void list() {
        WordRents x = WordsTest.fourWords();
        DUE.is("21: nothing on the PAD", x.list(), WordRents.NO);
        Due.say(x, "ac");
        DUE.is("21: a FAULT", x.list(), WordRents.NO);
        DUE.is("21: the PAD stays", x.told(0), 2);
        Due.say(x, "aca");
        DUE.is("21: one", x.list(), 1);
        DUE.is("21: the PAD is empty", x.told(0), 0);
        Due.say(x, "aca");
        DUE.is("21: the same again", x.list(), 2);
        Due.say(x, "acadb");
        DUE.is("21: of 5", x.list(), 3);
        Due.say(x, "bcb");
        DUE.is("21: four", x.list(), 4);
        Due.say(x, "bca");
        DUE.is("21: full", x.list(), WordRents.FULL);
        DUE.is("21: full, the PAD stays", x.told(0), 3);
        DUE.is("21: four are told", x.told(5), 4);
        Due.say(x, "b");
        DUE.is("21: NO is first", x.list(), WordRents.NO);
    }

    private static void held(WordRents x, int count, int set) {
        DUE.is("22: how many", x.held(0), count);
        DUE.is("22: the set", x.held(1), set);
    }

    private static void held() {
        WordRents x = new WordRents();
        x.word(0, 1, 0, 0, 0);
        x.word(1, 1, 0, 0, 0);
        for (int w = 2; w < 8; w++) {
            x.word(w, 0, 0, 0, 0);
        }
        held(x, 0, 0);
        list(x, "fag");
        held(x, 1, 1);
        list(x, "gbh");
        held(x, 1, 64);
        list(x, "dac");
        held(x, 2, 1 + 2);
        list(x, "dbd");
        held(x, 2, 1 + 2);
        DUE.is("22: -1", x.held(-1), WordRents.OUTSIDE);
        DUE.is("22: 2", x.held(2), WordRents.OUTSIDE);
        x.forget(0);
        held(x, 0, 0);
        x.word(1, 2, 0, 0, 0);
        list(x, "cacbd");
        list(x, "eaf");
        held(x, 1, 1);
        x.word(2, 1, 0, 0, 0);
        x.word(1, 1, 0, 0, 0);
        list(x, "hbh");
        list(x, "gcg");
        held(x, 3, 1 + 2 + 4);
    }

    /** What was told stays told, whatever becomes of its WORDS. */
    private static void listStaysAsTold() {
        WordRents x = WordsTest.fourWords();
        list(x, "bcb");
        x.strikeOut(1);
        x.strikeOut(2);
        DUE.is("21: it is still told", x.told(5), 1);
        held(x, 1, 2);
    }

    private static void strike() {
        WordRents x = WordsTest.fourWords();
        DUE.is("23: nothing", x.strike(0), 12);
        DUE.is("23: a noun", x.strike(1), 2);
        DUE.is("23: the verb", x.strike(4), 0);
        DUE.is("23: the joiner", x.strike(8), 4);
        DUE.is("23: noun and joiner", x.strike(9), 1);
        DUE.is("23: both nouns", x.strike(3), 0);
        DUE.is("23: what there is not", x.strike(240), 12);
        DUE.is("23: all", x.strike(255), 0);
        DUE.is("23: -1", x.strike(-1), WordRents.OUTSIDE);
        DUE.is("23: 256", x.strike(256), WordRents.OUTSIDE);
        DUE.is("23: MIN", x.strike(MIN), WordRents.OUTSIDE);
        x.word(4, 0, 0, 0, 0);
        x.word(5, 0, 0, 0, 0);
        x.word(6, 1, 0, 0, 0);
        x.word(7, 2, 0, 0, 0);
        DUE.is("23: 4 nouns, 2 verbs, 2 joiners", x.strike(0), 4 * 2 * 4 + 4 * 2 * 4 * 2 * 4);
        DUE.is("23: WORDS are still there", x.told(1), 255);
    }

    private static void worst() {
        WordRents x = new WordRents();
        DUE.is("24: no WORDS", x.worst(), WordRents.NONE);
        x.word(6, 2, 0, 0, 0);
        DUE.is("24: the only one", x.worst(), 6);
        x.word(5, 1, 0, 0, 0);
        DUE.is("24: the least of those that are alike", x.worst(), 5);
        x.word(0, 0, 0, 0, 0);
        x.word(7, 0, 0, 0, 0);
        DUE.is("24: the verb", x.worst(), 5);
        x.word(4, 1, 0, 0, 0);
        DUE.is("24: a noun, of two", x.worst(), 0);
        x.word(1, 0, 0, 0, 0);
        DUE.is("24: the joiner", x.worst(), 6);
        x.strikeOut(7);
        x.strikeOut(4);
        DUE.is("24: the verb again", x.worst(), 5);
    }

    private static void seen() {
        WordRents x = new WordRents();
        for (int bad : new int[] {-1, 4, MIN, MAX}) {
            DUE.is("25: FIRM " + bad, x.seen(bad, 256), WordRents.UNKNOWN);
        }
        DUE.is("25: -1", x.seen(0, -1), WordRents.OUTSIDE);
        DUE.is("25: 256", x.seen(0, 256), WordRents.OUTSIDE);
        for (int i = 1; i <= 6; i++) {
            DUE.is("25: a SIGHT", x.seen(i % 4, 50 * i - 50), i);
        }
        DUE.is("25: full", x.seen(0, 0), WordRents.FULL);
        DUE.is("25: OUTSIDE is first", x.seen(0, 256), WordRents.OUTSIDE);
        DUE.is("25: UNKNOWN is first", x.seen(4, 0), WordRents.UNKNOWN);
        DUE.is("25: six", x.told(6), 6);
    }

    private static void forget() {
        WordRents x = WordsTest.fourWords();
        DUE.is("26: no LIST", x.forget(0), 0);
        DUE.is("26: no SIGHTS", x.forget(1), 0);
        list(x, "aca");
        x.seen(0, 1);
        x.seen(1, 255);
        DUE.is("26: -1", x.forget(-1), WordRents.OUTSIDE);
        DUE.is("26: 2", x.forget(2), WordRents.OUTSIDE);
        DUE.is("26: the LIST", x.forget(0), 1);
        DUE.is("26: SIGHTS stay", x.told(6), 2);
        DUE.is("26: SIGHTS", x.forget(1), 2);
        DUE.is("26: gone", x.told(5) + x.told(6), 0);
        list(x, "bcb");
        DUE.is("26: one told anew", x.held(1), 2);
        x.seen(2, 7);
        DUE.is("26: there is no second SIGHT", x.spoke(1, 0), WordRents.OUTSIDE);
    }

    private static void spoke(WordRents x, int sight, int count, String first) {
        DUE.is("27: how many of " + sight, x.spoke(sight, 0), count);
        for (int i = 0; i < 3; i++) {
            int want = i < first.length() ? first.charAt(i) - 'a' : WordRents.NONE;
            DUE.is("27: " + sight + " place " + i, x.spoke(sight, 1 + i), want);
        }
    }

    private static void spoke() {
        WordRents x = WordsTest.fourWords();
        DUE.lease(x, "0a+1b+0c+");
        DUE.is("27: no SIGHT", x.spoke(0, 0), WordRents.OUTSIDE);
        x.seen(0, 2);
        x.seen(1, 4);
        x.seen(1, 5);
        x.seen(2, 7);
        x.seen(0, 0);
        x.seen(3, 8);
        spoke(x, 0, 3, "acb");
        spoke(x, 1, 1, "bcb");
        spoke(x, 2, 3, "aca");
        spoke(x, 3, 2, "acb");
        spoke(x, 4, 1, "aca");
        spoke(x, 5, 0, "");
        DUE.is("27: -1", x.spoke(-1, 0), WordRents.OUTSIDE);
        DUE.is("27: 6", x.spoke(6, 0), WordRents.OUTSIDE);
        DUE.is("27: MAX", x.spoke(MAX, 0), WordRents.OUTSIDE);
        DUE.is("27: what -1", x.spoke(0, -1), WordRents.OUTSIDE);
        DUE.is("27: what 4", x.spoke(0, 4), WordRents.OUTSIDE);
        x.strikeOut(2);
        spoke(x, 0, 0, "");
    }

    /** A WORD at a RENT of 0 costs nothing, whoever holds it; one that is halved to nothing is of those that cost. */
    private static void spokeForNothing() {
        WordRents x = new WordRents();
        x.word(0, 0, 0, 0, 0);
        x.word(1, 1, 0, 1, 1);
        x.word(2, 0, 0, 1, 5);
        DUE.lease(x, "0a+0b+0c+");
        x.seen(1, 2);
        x.seen(1, 3);
        x.seen(1, 6);
        spoke(x, 0, 1, "aba");
        spoke(x, 1, 0, "");
        spoke(x, 2, 3, "abc");
        Due.say(x, "aba");
        DUE.is("28: just the verb", x.who(), 15);
        x.forget(1);
        x.seen(1, 3);
        DUE.is("28: not what costs 0", x.who(), 13);
    }

    private static void who() {
        WordRents x = WordsTest.fourWords();
        DUE.lease(x, "0a+1b+0c+");
        DUE.is("28: a FAULT", x.who(), WordRents.NO);
        Due.say(x, "acb");
        DUE.is("28: no SIGHTS", x.who(), 15);
        x.seen(1, 4);
        DUE.is("28: not the second", x.who(), 13);
        x.seen(1, 5);
        DUE.is("28: some SIGHT is enough", x.who(), 15);
        x.seen(0, 7);
        DUE.is("28: its own WORDS cost it nothing", x.who(), 14);
        x.seen(0, 2);
        x.seen(3, 7);
        x.seen(2, 3);
        DUE.is("28: not the third", x.who(), 11);
        Due.say(x, "acadb");
        DUE.is("28: of 5 WORDS", x.who(), 11);
        DUE.is("28: the PAD stays", x.told(0), 5);
    }
}

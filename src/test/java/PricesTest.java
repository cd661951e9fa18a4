/** Promises 9 to 13: price, gets, nearly, said, misprints. */
public final class PricesTest {
    private static final int MIN = Integer.MIN_VALUE, MAX = Integer.MAX_VALUE;
    private static final Due DUE = new Due("PricesTest");

    public static void main(String[] args) {
        price();
        rhymes();
        nothingToPay();
        refusals();
        nearly();
        nearlyTies();
        nearlyOfFive();
        nearlySlack();
        said();
        saidFirst();
        misprints();
        misprintTies();
        misprintsOfFive();
        DUE.end();
    }

    /** a 0, b 1, c 0 hold; d is nobody's. Rents 10, 6, 8, 3; a and c rhyme. */
    private static WordRents held() {
        WordRents x = WordsTest.fourWords();
        DUE.lease(x, "0a+1b+0c+");
        return x;
    }

    private static void price(WordRents x, String text, int speaker, int want) {
        Due.say(x, text);
        DUE.is("9: of " + text + " to " + speaker, x.price(speaker), want);
    }

    private static void gets(WordRents x, String text, int speaker, int firm, int want) {
        Due.say(x, text);
        DUE.is("10: of " + text + " by " + speaker + " gets " + firm, x.gets(speaker, firm), want);
    }

    private static void price() {
        WordRents x = held();
        price(x, "acb", 4, 10 + 4 + 6);
        price(x, "acb", 0, 6);
        price(x, "acb", 1, 14);
        price(x, "acb", 3, 20);
        price(x, "aca", 4, 14);
        price(x, "bcb", 4, 14);
        price(x, "acadb", 4, 20);
        DUE.lease(x, "2d+");
        price(x, "acadb", 4, 23);
        price(x, "acadb", 2, 20);
        price(x, "aca", 0, 0);
        DUE.is("9: the PAD stays", x.told(0), 3);
        gets(x, "acb", 4, 0, 14);
        gets(x, "acb", 4, 1, 6);
        gets(x, "acb", 4, 2, 0);
        gets(x, "acb", 1, 1, 0);
        gets(x, "acb", 1, 0, 14);
        gets(x, "acadb", 0, 2, 3);
        gets(x, "acadb", 2, 2, 0);
    }

    private static void rhymes() {
        WordRents x = new WordRents();
        x.word(0, 0, 0, 3, 7);
        x.word(1, 0, 0, 3, 7);
        x.word(2, 1, 0, 3, 7);
        x.word(3, 2, 0, 3, 9);
        x.word(4, 0, 0, 2, 9);
        DUE.lease(x, "0a+1b+2c+");
        price(x, "acb", 4, 7 + 3 + 3);
        gets(x, "acb", 4, 0, 7);
        gets(x, "acb", 4, 1, 3);
        gets(x, "acb", 4, 2, 3);
        gets(x, "bca", 4, 0, 7);
        price(x, "acb", 0, 7 + 3);
        gets(x, "acb", 0, 1, 7);
        gets(x, "acb", 0, 2, 3);
        price(x, "acadb", 4, 13);
        DUE.lease(x, "3d+3e+");
        price(x, "acadb", 4, 9 + 3 + 3 + 3);
        gets(x, "acadb", 4, 3, 9);
        gets(x, "acadb", 4, 0, 3);
        price(x, "acade", 4, 9 + 3 + 3 + 9);
        gets(x, "acade", 4, 3, 18);
        price(x, "acade", 3, 7 + 3);
        x.word(0, 0, 0, 3, 1);
        DUE.lease(x, "0a+");
        price(x, "acb", 4, 7 + 3);
        gets(x, "acb", 4, 0, 0);
    }

    private static void nothingToPay() {
        WordRents x = WordsTest.fourWords();
        price(x, "acadb", 4, 0);
        price(x, "acb", 2, 0);
        gets(x, "acb", 2, 0, 0);
        x.word(1, 0, 1, 0, 0);
        DUE.lease(x, "0b+");
        price(x, "bcb", 4, 0);
        gets(x, "bcb", 4, 0, 0);
    }

    private static void refusals() {
        WordRents x = held();
        Due.say(x, "acb");
        for (int bad : new int[] {-1, 5, MIN, MAX}) {
            DUE.is("9: speaker " + bad, x.price(bad), WordRents.UNKNOWN);
            DUE.is("10: speaker " + bad, x.gets(bad, 0), WordRents.UNKNOWN);
            DUE.is("11: speaker " + bad, x.nearly(bad, 99, 99), WordRents.UNKNOWN);
            DUE.is("12: speaker " + bad, x.said(bad, 1000, 99), WordRents.UNKNOWN);
            DUE.is("13: speaker " + bad, x.misprints(bad, 99), WordRents.UNKNOWN);
        }
        for (int bad : new int[] {-1, 4, MIN, MAX}) {
            DUE.is("10: FIRM " + bad, x.gets(0, bad), WordRents.UNKNOWN);
        }
        Due.say(x, "ac");
        DUE.is("9: a FAULT", x.price(0), WordRents.NO);
        DUE.is("9: UNKNOWN is first", x.price(5), WordRents.UNKNOWN);
        DUE.is("10: a FAULT", x.gets(4, 0), WordRents.NO);
        DUE.is("10: UNKNOWN is first", x.gets(4, 4), WordRents.UNKNOWN);
        DUE.is("11: a FAULT", x.nearly(4, 0, 6), WordRents.NO);
        DUE.is("11: OUTSIDE is first", x.nearly(4, 37, 0), WordRents.OUTSIDE);
        DUE.is("11: OUTSIDE what is first", x.nearly(4, 0, 7), WordRents.OUTSIDE);
        DUE.is("13: a FAULT", x.misprints(4, 0), WordRents.NO);
        DUE.is("13: OUTSIDE is first", x.misprints(4, 4), WordRents.OUTSIDE);
        DUE.is("13: -1", x.misprints(4, -1), WordRents.OUTSIDE);
        DUE.is("12: a FAULT is nothing to it", x.said(4, 999, 0), 12);
        Due.say(x, "acb");
        DUE.is("11: SLACK -1", x.nearly(4, -1, 0), WordRents.OUTSIDE);
        DUE.is("11: SLACK 36", x.nearly(4, 36, 0), 14);
        DUE.is("11: what -1", x.nearly(4, 0, -1), WordRents.OUTSIDE);
        DUE.is("11: what 5 of 3 WORDS", x.nearly(4, 0, 5), WordRents.OUTSIDE);
        DUE.is("11: what 6 of 3 WORDS", x.nearly(4, 0, 6), WordRents.OUTSIDE);
        DUE.is("12: -1 PENCE", x.said(4, -1, 0), WordRents.OUTSIDE);
        DUE.is("12: 1000 PENCE", x.said(4, 1000, 0), WordRents.OUTSIDE);
        DUE.is("12: what -1", x.said(4, 0, -1), WordRents.OUTSIDE);
        DUE.is("12: what 7", x.said(4, 0, 7), WordRents.OUTSIDE);
    }

    private static void nearly(WordRents x, String text, int speaker, int slack, int price, int far, String words) {
        Due.say(x, text);
        String call = "11: " + text + " by " + speaker + " within " + slack;
        DUE.is(call + " price", x.nearly(speaker, slack, 0), price);
        DUE.is(call + " far", x.nearly(speaker, slack, 1), far);
        for (int i = 0; i < words.length(); i++) {
            DUE.is(call + " place " + i, x.nearly(speaker, slack, 2 + i), words.charAt(i) - 'a');
        }
    }

    private static void nearly() {
        WordRents x = held();
        nearly(x, "acb", 4, 0, 20, 0, "acb");
        nearly(x, "acb", 4, 1, 14, 1, "aca");
        nearly(x, "acb", 1, 0, 14, 0, "acb");
        nearly(x, "acb", 1, 1, 8, 1, "bcb");
        nearly(x, "bca", 1, 1, 8, 1, "bcb");
        nearly(x, "aca", 1, 1, 14, 0, "aca");
        nearly(x, "aca", 1, 2, 8, 2, "bcb");
        nearly(x, "bcb", 0, 2, 0, 2, "aca");
        x.far(0, 1, 5);
        nearly(x, "acb", 4, 4, 20, 0, "acb");
        nearly(x, "acb", 4, 5, 14, 5, "aca");
        x.far(0, 1, 0);
        nearly(x, "acb", 1, 0, 8, 0, "bcb");
    }

    /** As cheap: the first by letters is told, even ahead of the one that was told itself. */
    private static void nearlyTies() {
        WordRents x = WordsTest.fourWords();
        nearly(x, "bcb", 4, 0, 0, 0, "bcb");
        nearly(x, "bcb", 4, 1, 0, 1, "acb");
        nearly(x, "bcb", 4, 2, 0, 2, "aca");
        nearly(x, "bcbdb", 2, 3, 0, 3, "acada");
    }

    private static void nearlyOfFive() {
        WordRents x = held();
        DUE.lease(x, "2d+");
        x.word(5, 2, 4, 2, 1);
        nearly(x, "acadb", 4, 0, 23, 0, "acadb");
        nearly(x, "acadb", 4, 1, 17, 1, "acada");
        nearly(x, "acadb", 4, 2, 14, 2, "acafa");
        nearly(x, "acadb", 2, 1, 14, 1, "acada");
        nearly(x, "bcbfb", 0, 0, 6, 0, "bcbfb");
        nearly(x, "bcbfb", 0, 1, 6, 1, "acbfb");
    }

    /** FAR is added over the places: twice as many places, twice as far. */
    private static void nearlySlack() {
        WordRents x = new WordRents();
        x.word(0, 0, 4, 0, 9);
        x.word(1, 1, 0, 1, 9);
        x.word(2, 0, 0, 2, 9);
        x.far(0, 4, 9);
        DUE.lease(x, "0a+");
        nearly(x, "aba", 1, 17, 9, 0, "aba");
        nearly(x, "aba", 1, 18, 0, 18, "cbc");
        nearly(x, "abc", 1, 8, 9, 0, "abc");
        nearly(x, "abc", 1, 9, 0, 9, "cbc");
    }

    private static void said(WordRents x, int speaker, int pence, int count, int five, String first) {
        String call = "12: by " + speaker + " with " + pence;
        DUE.is(call + " how many", x.said(speaker, pence, 0), count);
        DUE.is(call + " of 5", x.said(speaker, pence, 1), five);
        for (int i = 0; i < 5; i++) {
            int want = i < first.length() ? first.charAt(i) - 'a' : WordRents.NONE;
            DUE.is(call + " place " + i, x.said(speaker, pence, 2 + i), want);
        }
    }

    private static void said() {
        WordRents x = held();
        said(x, 4, 13, 0, 0, "");
        said(x, 4, 14, 4, 2, "aca");
        said(x, 4, 19, 4, 2, "aca");
        said(x, 4, 20, 12, 8, "aca");
        said(x, 0, 0, 2, 1, "aca");
        said(x, 1, 7, 0, 0, "");
        said(x, 1, 8, 2, 1, "bcb");
        said(x, 1, 999, 12, 8, "aca");
        x.strikeOut(3);
        said(x, 4, 999, 4, 0, "aca");
        x.strikeOut(2);
        said(x, 4, 999, 0, 0, "");
        said(new WordRents(), 0, 999, 0, 0, "");
    }

    /** The first by fewest WORDS, then letters; a price of 999 PENCE is never reached, but one of 99 is. */
    private static void saidFirst() {
        WordRents x = new WordRents();
        x.word(7, 0, 0, 0, 0);
        x.word(6, 1, 0, 1, 99);
        x.word(5, 2, 0, 2, 99);
        x.word(4, 0, 0, 3, 99);
        DUE.lease(x, "0h+0g+0f+0e+");
        said(x, 1, 999, 12, 8, "ege");
        said(x, 1, 98, 0, 0, "");
        said(x, 1, 99, 1, 0, "hgh");
        said(x, 1, 198, 5, 1, "ege");
        said(x, 1, 297, 12, 8, "ege");
        said(x, 0, 0, 12, 8, "ege");
    }

    private static void misprints(WordRents x, String text, int speaker, int... want) {
        Due.say(x, text);
        for (int what = 0; what < 4; what++) {
            DUE.is("13: " + text + " by " + speaker + " what " + what, x.misprints(speaker, what), want[what]);
        }
    }

    private static void misprints() {
        WordRents x = held();
        misprints(x, "acb", 4, 2, 0, 1, 14);
        misprints(x, "acb", 0, 2, 2, 0, 0);
        misprints(x, "acb", 1, 2, 0, 1, 8);
        misprints(x, "aca", 4, 2, 0, 1, 20);
        x.word(4, 1, 2, 3, 5);
        misprints(x, "acb", 4, 3, 0, 1, 14);
        x.word(2, 1, 2, 0, 30);
        DUE.lease(x, "0c+");
        misprints(x, "acb", 4, 3, 1, 4, 16);
        x.strikeOut(4);
        x.strikeOut(1);
        misprints(x, "aca", 4, 0, WordRents.NONE, WordRents.NONE, WordRents.NONE);
    }

    /** As cheap: the first place, then the first letter. */
    private static void misprintTies() {
        WordRents x = new WordRents();
        x.word(7, 0, 0, 0, 9);
        x.word(3, 0, 0, 0, 9);
        x.word(2, 0, 0, 0, 9);
        x.word(6, 1, 0, 0, 9);
        x.word(5, 1, 0, 0, 9);
        misprints(x, "hgh", 4, 5, 0, 2, 0);
        misprints(x, "cgc", 4, 5, 0, 3, 0);
        DUE.lease(x, "0c+");
        misprints(x, "hgh", 4, 5, 0, 3, 0);
        misprints(x, "cgh", 4, 5, 0, 3, 0);
        DUE.lease(x, "0d+0h+");
        misprints(x, "hgh", 4, 5, 1, 5, 9);
        misprints(x, "hgh", 0, 5, 0, 2, 0);
    }

    private static void misprintsOfFive() {
        WordRents x = held();
        misprints(x, "acadb", 4, 3, 4, 0, 14);
        x.word(7, 2, 0, 0, 9);
        misprints(x, "acadb", 4, 4, 4, 0, 14);
        DUE.lease(x, "2d+");
        misprints(x, "acada", 4, 4, 3, 7, 14);
        misprints(x, "acada", 2, 4, 3, 7, 14);
    }
}

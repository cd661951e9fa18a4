/** Promises 9 to 13, and what "Terms" says of PRICES: each sentence that names an edge has its own test. */
public final class PriceEdgesTest {
    private static final Due DUE = new Due("PriceEdgesTest");
    private static final int NONE = Edge.NONE, UNKNOWN = Edge.UNKNOWN, OUTSIDE = Edge.OUTSIDE, NO = Edge.NO;

    public static void main(String[] args) {
        speakers();
        paidOnce();
        nothingForOwn();
        nothingForNobodys();
        rentOfNothing();
        halvesAreCut();
        halvesAreCutEach();
        dearestOfThoseThatCost();
        dearestByRhyme();
        asDearTheLeastIsWhole();
        firmsThatGetNothing();
        getsAddUpToThePrice();
        greatestPrice();
        slackOfNothing();
        slackJustEnough();
        slackAtMost();
        nearlyOfAsManyWords();
        nearlyOfItsSorts();
        nearlyTheFirstByLetters();
        nearlyFollowsTheDay();
        nearlyWhat();
        penceOfNothing();
        penceJustEnough();
        penceAtMost();
        saidNothing();
        saidOnlyShort();
        saidFirst();
        saidMost();
        misprintsNone();
        misprintsOfOneLetter();
        misprintsFirstPlace();
        misprintsFirstLetter();
        misprintsMayBeDearer();
        DUE.end();
    }

    /** Nouns a, b and e, verbs c and f, joiner d; RENTS of their own, no RHYME shared by a, c, b and d. */
    private static WordRents six() {
        WordRents x = new WordRents();
        x.word(0, 0, 0, 0, 10);
        x.word(1, 0, 1, 1, 20);
        x.word(2, 1, 2, 2, 40);
        x.word(3, 2, 3, 3, 80);
        x.word(4, 0, 4, 0, 9);
        x.word(5, 1, 4, 2, 39);
        return x;
    }

    private static void price(WordRents x, String text, int speaker, int want) {
        Due.say(x, text);
        DUE.is("9: of " + text + " to " + speaker, x.price(speaker), want);
    }

    private static void gets(WordRents x, String text, int speaker, int... want) {
        Due.say(x, text);
        for (int firm = 0; firm < 4; firm++) {
            DUE.is("10: of " + text + " by " + speaker + " gets " + firm, x.gets(speaker, firm), want[firm]);
        }
    }

    /** "to a speaker (a FIRM, or 4: nobody's)": 4 holds nothing and pays for all that is held. */
    private static void speakers() {
        WordRents x = six();
        DUE.lease(x, "0a+1b+2c+3d+");
        price(x, "acbdb", 0, 20 + 40 + 80);
        price(x, "acbdb", 1, 10 + 40 + 80);
        price(x, "acbdb", 2, 10 + 20 + 80);
        price(x, "acbdb", 3, 10 + 20 + 40);
        price(x, "acbdb", 4, 10 + 20 + 40 + 80);
        DUE.is("9: 5", x.price(5), UNKNOWN);
        DUE.is("9: -1", x.price(-1), UNKNOWN);
        DUE.is("10: 5", x.gets(5, 0), UNKNOWN);
        DUE.is("10: FIRM 4 is none", x.gets(4, 4), UNKNOWN);
    }

    /** "each WORD in it is paid once". */
    private static void paidOnce() {
        WordRents x = six();
        DUE.lease(x, "0a+2c+3d+");
        price(x, "aca", 4, 50);
        price(x, "acada", 4, 130);
        price(x, "acadb", 4, 130);
        gets(x, "acada", 4, 10, 0, 40, 80);
    }

    /** "what is held by the speaker ... costs nothing". */
    private static void nothingForOwn() {
        WordRents x = six();
        DUE.lease(x, "1a+1b+1c+1d+");
        price(x, "acbdb", 1, 0);
        gets(x, "acbdb", 1, 0, 0, 0, 0);
        price(x, "acbdb", 0, 150);
        gets(x, "acbdb", 0, 0, 150, 0, 0);
    }

    /** "or by nobody, costs nothing": whatever the RENT, and to nobody's speaker as well. */
    private static void nothingForNobodys() {
        WordRents x = six();
        for (int speaker = 0; speaker < 5; speaker++) {
            price(x, "acbdb", speaker, 0);
        }
        x.word(0, 0, 0, 0, 99);
        price(x, "aca", 4, 0);
        DUE.lease(x, "2c+");
        price(x, "aca", 4, 40);
        DUE.lease(x, "2c-");
        price(x, "aca", 4, 0);
    }

    /** A RENT of 0 is paid as 0, and is no dearest one that halves another. */
    private static void rentOfNothing() {
        WordRents x = six();
        x.word(0, 0, 0, 2, 0);
        DUE.lease(x, "0a+2c+");
        price(x, "aca", 4, 40);
        gets(x, "aca", 4, 0, 0, 40, 0);
        x.word(2, 1, 0, 2, 0);
        DUE.lease(x, "2c+");
        price(x, "aca", 4, 0);
        x.word(2, 1, 0, 2, 1);
        DUE.lease(x, "2c+");
        price(x, "aca", 4, 1);
    }

    /** "the others by half (cut)": of 1 nothing is left, of 99 there is 49. */
    private static void halvesAreCut() {
        int[][] pairs = {{1, 1, 1}, {2, 1, 2}, {2, 2, 3}, {3, 3, 4}, {99, 99, 148}, {99, 98, 148}, {99, 1, 99}, {5, 4, 7}};
        for (int[] pair : pairs) {
            WordRents x = new WordRents();
            x.word(0, 0, 0, 3, pair[0]);
            x.word(1, 1, 0, 3, pair[1]);
            DUE.lease(x, "0a+1b+");
            price(x, "aba", 4, pair[2]);
            gets(x, "aba", 4, pair[0], pair[1] / 2, 0, 0);
        }
    }

    /** "(cut each)": three halves of 3 are 1 and 1 and 1, not 4. */
    private static void halvesAreCutEach() {
        WordRents x = new WordRents();
        x.word(0, 0, 0, 1, 3);
        x.word(1, 1, 0, 1, 3);
        x.word(2, 0, 0, 1, 3);
        x.word(3, 2, 0, 1, 3);
        x.word(4, 0, 0, 1, 3);
        DUE.lease(x, "0a+0b+0c+0d+0e+");
        price(x, "abc", 4, 3 + 1 + 1);
        price(x, "abcde", 4, 3 + 1 + 1 + 1 + 1);
        gets(x, "abcde", 4, 7, 0, 0, 0);
    }

    /** "of those of one RHYME that cost something": the speaker's own and nobody's halve nothing. */
    private static void dearestOfThoseThatCost() {
        WordRents x = new WordRents();
        x.word(0, 0, 0, 1, 90);
        x.word(1, 1, 0, 1, 21);
        x.word(2, 0, 0, 1, 11);
        DUE.lease(x, "0a+1b+2c+");
        price(x, "abc", 4, 90 + 10 + 5);
        price(x, "abc", 0, 21 + 5);
        price(x, "abc", 1, 90 + 5);
        DUE.lease(x, "0a-");
        price(x, "abc", 4, 21 + 5);
        price(x, "abc", 1, 11);
        gets(x, "abc", 1, 0, 0, 11, 0);
    }

    /** Each RHYME, from 0 to 3, has a dearest of its own. */
    private static void dearestByRhyme() {
        for (int rhyme = 0; rhyme < 4; rhyme++) {
            WordRents x = new WordRents();
            x.word(0, 0, 0, rhyme, 20);
            x.word(1, 1, 0, rhyme, 30);
            x.word(2, 0, 0, (rhyme + 1) % 4, 40);
            x.word(3, 2, 0, (rhyme + 1) % 4, 50);
            DUE.lease(x, "0a+1b+2c+3d+");
            price(x, "aba", 4, 30 + 10);
            price(x, "abc", 4, 30 + 10 + 40);
            price(x, "abcda", 4, 30 + 10 + 50 + 20);
            gets(x, "abcda", 4, 10, 30, 20, 50);
        }
    }

    /** "of WORDS of one RHYME that are as dear the least one is paid whole": by its letter, not by its place. */
    private static void asDearTheLeastIsWhole() {
        WordRents x = new WordRents();
        x.word(5, 0, 0, 2, 7);
        x.word(6, 1, 0, 2, 7);
        x.word(7, 0, 0, 2, 7);
        DUE.lease(x, "0f+1g+2h+");
        gets(x, "fgh", 4, 7, 3, 3, 0);
        gets(x, "hgf", 4, 7, 3, 3, 0);
        gets(x, "hgh", 4, 0, 7, 3, 0);
        gets(x, "hgf", 0, 0, 7, 3, 0);
        gets(x, "hgf", 1, 7, 0, 3, 0);
        x.word(7, 0, 0, 2, 8);
        DUE.lease(x, "2h+");
        gets(x, "fgh", 4, 3, 3, 8, 0);
    }

    private static void firmsThatGetNothing() {
        WordRents x = six();
        DUE.lease(x, "0a+");
        gets(x, "bcb", 4, 0, 0, 0, 0);
        gets(x, "aca", 4, 10, 0, 0, 0);
        gets(x, "aca", 0, 0, 0, 0, 0);
    }

    private static void getsAddUpToThePrice() {
        for (String text : new String[] {"aca", "bfh", "efedh", "acbgh", "afade"}) {
            WordRents x = Edge.rich(text);
            for (int speaker = 0; speaker < 5; speaker++) {
                int sum = 0;
                for (int firm = 0; firm < 4; firm++) {
                    sum += x.gets(speaker, firm);
                }
                DUE.is("10: all of " + text + " by " + speaker, sum, x.price(speaker));
            }
        }
    }

    /** Five WORDS of a RENT of 99 each: four RHYMES leave one half. */
    private static void greatestPrice() {
        WordRents x = new WordRents();
        x.word(0, 0, 0, 0, 99);
        x.word(1, 1, 0, 1, 99);
        x.word(2, 0, 0, 2, 99);
        x.word(3, 2, 0, 3, 99);
        x.word(4, 0, 0, 3, 99);
        DUE.lease(x, "3a+3b+3c+3d+3e+");
        price(x, "abcde", 4, 4 * 99 + 49);
        DUE.is("12: all but the dearest", x.said(4, 444, 0) - x.said(4, 445, 0), -6);
        DUE.is("12: all", x.said(4, 445, 0), x.strike(0));
    }

    private static void nearly(WordRents x, String text, int speaker, int slack, int price, int far, String words) {
        Due.say(x, text);
        String call = "11: " + text + " by " + speaker + " within " + slack;
        DUE.is(call + " price", x.nearly(speaker, slack, 0), price);
        DUE.is(call + " far", x.nearly(speaker, slack, 1), far);
        for (int i = 0; i < words.length(); i++) {
            DUE.is(call + " place " + i, x.nearly(speaker, slack, 2 + i), words.charAt(i) - 'a');
        }
    }

    /** SLACK 0: the one told, and what means the same or is not far at all. */
    private static void slackOfNothing() {
        WordRents x = six();
        DUE.lease(x, "0a+2c+");
        nearly(x, "aca", 4, 0, 50, 0, "aca");
        x.far(0, 1, 0);
        nearly(x, "aca", 4, 0, 40, 0, "bcb");
        x.far(0, 1, 1);
        nearly(x, "aca", 4, 0, 50, 0, "aca");
        x.word(4, 0, 0, 0, 9);
        nearly(x, "aca", 4, 0, 40, 0, "ece");
    }

    /** "in all no more than SLACK": as far as that is near enough, one farther is not. */
    private static void slackJustEnough() {
        WordRents x = six();
        x.far(0, 1, 3);
        x.far(0, 4, 9);
        x.far(2, 4, 4);
        DUE.lease(x, "0a+2c+");
        nearly(x, "aca", 4, 3, 50, 0, "aca");
        nearly(x, "aca", 4, 4, 10, 4, "afa");
        nearly(x, "aca", 4, 5, 10, 4, "afa");
        nearly(x, "aca", 4, 9, 10, 4, "afa");
        nearly(x, "aca", 4, 10, 0, 10, "bfb");
        nearly(x, "acb", 4, 6, 10, 4, "afb");
        nearly(x, "acb", 4, 7, 0, 7, "bfb");
    }

    /** SLACK 36 is four places of 9: five of them, 45, are too far even for the most of it. */
    private static void slackAtMost() {
        WordRents x = new WordRents();
        x.word(0, 0, 0, 0, 30);
        x.word(1, 1, 0, 1, 20);
        x.word(2, 2, 0, 2, 10);
        x.word(3, 0, 1, 0, 1);
        x.word(4, 1, 1, 1, 1);
        x.word(5, 2, 1, 2, 1);
        x.far(0, 1, 9);
        DUE.lease(x, "0a+0b+0c+");
        nearly(x, "abaca", 1, 36, 10, 36, "dedcd");
        nearly(x, "abaca", 1, 35, 30, 18, "aeafa");
        DUE.is("11: 37", x.nearly(1, 37, 0), OUTSIDE);
        nearly(x, "aba", 1, 27, 0, 27, "ded");
        nearly(x, "aba", 1, 26, 20, 18, "dbd");
        nearly(x, "aba", 1, 36, 0, 27, "ded");
    }

    /** "SENTENCES of as many WORDS": a cheaper one of 3 is none for 5, nor is one of 5 for 3. */
    private static void nearlyOfAsManyWords() {
        WordRents x = six();
        DUE.lease(x, "3d+");
        nearly(x, "acadb", 4, 36, 80, 1, "acada");
        nearly(x, "acb", 4, 36, 0, 1, "aca");
    }

    /** "each WORD of the SORT of that in its place": the only one of its SORT must be paid. */
    private static void nearlyOfItsSorts() {
        WordRents x = six();
        DUE.lease(x, "0c+1f+2d+");
        nearly(x, "acb", 4, 36, 39, 2, "afa");
        x.strikeOut(5);
        nearly(x, "acb", 4, 36, 40, 1, "aca");
        x.word(5, 2, 4, 0, 1);
        nearly(x, "acb", 4, 36, 40, 1, "aca");
        nearly(x, "acbda", 4, 36, 40, 2, "acafa");
    }

    /** "the first (by letters) of so little". */
    private static void nearlyTheFirstByLetters() {
        WordRents x = six();
        nearly(x, "ecb", 4, 36, 0, 2, "aca");
        nearly(x, "efe", 4, 0, 0, 0, "efe");
        nearly(x, "efe", 4, 1, 0, 1, "afe");
        nearly(x, "efe", 4, 2, 0, 2, "ace");
        nearly(x, "efe", 4, 3, 0, 3, "aca");
        DUE.lease(x, "0a+");
        nearly(x, "efe", 4, 3, 0, 3, "bcb");
    }

    /** "by today's rents": the answer goes with RENTS and HOLDERS. */
    private static void nearlyFollowsTheDay() {
        WordRents x = six();
        DUE.lease(x, "0a+1b+2e+");
        nearly(x, "aca", 4, 36, 9, 2, "ece");
        DUE.lease(x, "2e^2e^");
        nearly(x, "aca", 4, 36, 10, 0, "aca");
        nearly(x, "aca", 1, 36, 0, 2, "bcb");
    }

    /** "what 0 to 6 (4 for 3 WORDS)"; with a FAULT it is NO. */
    private static void nearlyWhat() {
        WordRents x = six();
        Due.say(x, "acb");
        DUE.is("11: 3 WORDS, -1", x.nearly(4, 0, -1), OUTSIDE);
        DUE.is("11: 3 WORDS, 4", x.nearly(4, 0, 4), 1);
        DUE.is("11: 3 WORDS, 5", x.nearly(4, 0, 5), OUTSIDE);
        DUE.is("11: 3 WORDS, 6", x.nearly(4, 0, 6), OUTSIDE);
        Due.say(x, "acbde");
        DUE.is("11: 5 WORDS, 5", x.nearly(4, 0, 5), 3);
        DUE.is("11: 5 WORDS, 6", x.nearly(4, 0, 6), 4);
        DUE.is("11: 5 WORDS, 7", x.nearly(4, 0, 7), OUTSIDE);
        Due.say(x, "acbd");
        DUE.is("11: a FAULT, 6", x.nearly(4, 0, 6), NO);
        DUE.is("11: a FAULT, 7", x.nearly(4, 0, 7), OUTSIDE);
    }

    private static void said(WordRents x, int speaker, int pence, int count, int five, String first) {
        String call = "12: by " + speaker + " with " + pence;
        DUE.is(call + " how many", x.said(speaker, pence, 0), count);
        DUE.is(call + " of 5", x.said(speaker, pence, 1), five);
        for (int i = 0; i < 5; i++) {
            int want = i < first.length() ? first.charAt(i) - 'a' : NONE;
            DUE.is(call + " place " + i, x.said(speaker, pence, 2 + i), want);
        }
    }

    /** PENCE 0: what is one's own, nobody's, or of a RENT of 0 can be said. */
    private static void penceOfNothing() {
        WordRents x = new WordRents();
        x.word(0, 0, 0, 0, 1);
        x.word(1, 1, 0, 1, 5);
        said(x, 4, 0, 1, 0, "aba");
        DUE.lease(x, "2a+");
        said(x, 4, 0, 0, 0, "");
        said(x, 2, 0, 1, 0, "aba");
        said(x, 4, 1, 1, 0, "aba");
        DUE.lease(x, "2av");
        said(x, 4, 0, 1, 0, "aba");
        DUE.is("12: -1 PENCE", x.said(4, -1, 0), OUTSIDE);
    }

    /** "whose PRICE is no more": as much is enough, one less is not. */
    private static void penceJustEnough() {
        WordRents x = new WordRents();
        x.word(0, 0, 0, 0, 30);
        x.word(1, 1, 0, 0, 21);
        x.word(2, 2, 0, 1, 7);
        DUE.lease(x, "0a+0b+0c+");
        said(x, 4, 39, 0, 0, "");
        said(x, 4, 40, 1, 0, "aba");
        said(x, 4, 46, 1, 0, "aba");
        said(x, 4, 47, 2, 1, "aba");
    }

    private static void penceAtMost() {
        WordRents x = six();
        DUE.lease(x, "0a+0b+0c+0d+0e+0f+");
        said(x, 1, 999, 9 * 2 + 27 * 2, 27 * 2, "aca");
        DUE.is("12: 1000", x.said(1, 1000, 0), OUTSIDE);
        DUE.is("12: 1000, the first", x.said(1, 1000, 2), OUTSIDE);
    }

    /** "NONE": no SENTENCE at all, for want of a SORT. */
    private static void saidNothing() {
        for (int missing = 0; missing < 2; missing++) {
            WordRents x = new WordRents();
            for (int w = 0; w < 8; w++) {
                x.word(w, w % 2 == 0 ? 1 - missing : 2, 0, 0, 0);
            }
            said(x, 4, 999, 0, 0, "");
        }
    }

    /** Without a joiner there are none of 5; the first is of 3, so its 4th and 5th place are NONE at all times. */
    private static void saidOnlyShort() {
        WordRents x = new WordRents();
        x.word(7, 0, 0, 0, 0);
        x.word(6, 1, 0, 0, 0);
        said(x, 4, 0, 1, 0, "hgh");
        x.word(5, 2, 0, 0, 0);
        said(x, 4, 0, 2, 1, "hgh");
        DUE.is("12: what 7", x.said(4, 0, 7), OUTSIDE);
        DUE.is("12: what -1", x.said(4, 0, -1), OUTSIDE);
    }

    /** "by fewest WORDS, then letters". */
    private static void saidFirst() {
        WordRents x = six();
        said(x, 4, 0, 18 + 54, 54, "aca");
        DUE.lease(x, "0a+0c+");
        said(x, 4, 0, 4 + 8, 8, "bfb");
        said(x, 4, 10, 9 + 27, 27, "afa");
        said(x, 4, 39, 9 + 27, 27, "afa");
        said(x, 4, 40, 13 + 35, 35, "afa");
        DUE.lease(x, "0a^");
        said(x, 4, 10, 4 + 8, 8, "bfb");
    }

    /** Five nouns, two verbs and a joiner are the most that can be said with eight WORDS. */
    private static void saidMost() {
        WordRents x = new WordRents();
        for (int w = 0; w < 8; w++) {
            x.word(w, w < 5 ? 0 : w < 7 ? 1 : 2, 0, 0, 99);
        }
        said(x, 4, 0, 300, 250, "afa");
    }

    private static void misprints(WordRents x, String text, int speaker, int... want) {
        Due.say(x, text);
        for (int what = 0; what < 4; what++) {
            DUE.is("13: " + text + " by " + speaker + " what " + what, x.misprints(speaker, what), want[what]);
        }
    }

    /** "NONE": of each SORT there is but one. */
    private static void misprintsNone() {
        WordRents x = new WordRents();
        x.word(0, 0, 0, 0, 5);
        x.word(1, 1, 0, 0, 5);
        x.word(2, 2, 0, 0, 5);
        misprints(x, "aba", 4, 0, NONE, NONE, NONE);
        misprints(x, "abaca", 0, 0, NONE, NONE, NONE);
        DUE.is("13: what 4", x.misprints(4, 4), OUTSIDE);
        DUE.is("13: what -1", x.misprints(4, -1), OUTSIDE);
        x.word(7, 2, 0, 0, 5);
        misprints(x, "aba", 4, 0, NONE, NONE, NONE);
        misprints(x, "abaca", 4, 1, 3, 7, 0);
    }

    /** "one letter of it is another one": at each of the places, to the last. */
    private static void misprintsOfOneLetter() {
        WordRents x = six();
        DUE.lease(x, "0a+1b+2c+3d+");
        misprints(x, "aca", 4, 2 + 1 + 2, 1, 5, 10);
        misprints(x, "acada", 4, 2 + 1 + 2 + 0 + 2, 1, 5, 90);
        x.word(7, 2, 0, 0, 0);
        misprints(x, "acada", 4, 8, 3, 7, 50);
        x.word(5, 1, 0, 0, 0);
        x.strikeOut(7);
        misprints(x, "acadb", 4, 7, 1, 5, 110);
        x.strikeOut(5);
        misprints(x, "acadb", 4, 6, 4, 0, 130);
    }

    /** "of several the first place". */
    private static void misprintsFirstPlace() {
        WordRents x = six();
        misprints(x, "efb", 4, 5, 0, 0, 0);
        DUE.lease(x, "0a+0b+0e+");
        misprints(x, "aca", 1, 5, 1, 5, 10);
        misprints(x, "aca", 0, 5, 0, 1, 0);
    }

    /** "then the first letter". */
    private static void misprintsFirstLetter() {
        WordRents x = six();
        misprints(x, "aca", 4, 5, 0, 1, 0);
        misprints(x, "bcb", 4, 5, 0, 0, 0);
        DUE.lease(x, "0b+");
        misprints(x, "aca", 4, 5, 0, 4, 0);
        misprints(x, "acb", 4, 5, 2, 0, 0);
    }

    /** The cheapest may cost more than what it is a misprint of: that one itself is none. */
    private static void misprintsMayBeDearer() {
        WordRents x = new WordRents();
        x.word(0, 0, 0, 0, 9);
        x.word(1, 1, 0, 1, 9);
        x.word(2, 1, 0, 2, 99);
        DUE.lease(x, "0c+");
        misprints(x, "aba", 4, 1, 1, 2, 99);
        misprints(x, "aca", 4, 1, 1, 1, 0);
    }
}

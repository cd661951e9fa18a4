/** Promises 29 to 34, and what "Terms" says of chance, rivals, years, images: each sentence that names an edge has its own test. */
public final class ChanceEdgesTest {
    private static final Due DUE = new Due("ChanceEdgesTest");
    private static final int NONE = Edge.NONE, UNKNOWN = Edge.UNKNOWN, OUTSIDE = Edge.OUTSIDE, STATE = Edge.STATE, NO = Edge.NO;

    public static void main(String[] args) {
        noTenths();
        allTenths();
        lowestTerms();
        longestFractions();
        eachWordOnce();
        letWithoutSomeSort();
        letWithoutAList();
        letOfAStruckList();
        letParts();
        letNeedsNoPad();
        restsOfAll();
        restsBelowAndAbove();
        restsOfEachPlace();
        restsOfFirms();
        seedLeast();
        seedMost();
        seedWraps();
        seedsOfEachWord();
        yearOfOneDay();
        yearOfMostDays();
        yearTakesElseGives();
        yearGivesOnlyItsOwn();
        yearDayBehindTheAct();
        yearFromAllAsItIs();
        yearIsNotDone();
        imageNotKept();
        imageOfNothing();
        imageKeepsItsOwn();
        imageOverAnOlder();
        imageLeavesThePad();
        restoreOfHolders();
        restoreOfFullLists();
        toldAtFirst();
        toldAtMost();
        toldOfWords();
        toldOfFar();
        DUE.end();
    }

    private static void let(WordRents x, int t, int which, long upper, long lower) {
        DUE.is("29: upper of " + t + "," + which, x.let(t, which, 0), upper);
        DUE.is("29: lower of " + t + "," + which, x.let(t, which, 1), lower);
    }

    /** t 0: nothing can be had, so nothing can be said: 0 in lowest terms is 0 and 1. */
    private static void noTenths() {
        WordRents x = Edge.rich("acb");
        for (int which = 0; which < 3; which++) {
            let(x, 0, which, 0, 1);
        }
    }

    /** t 10: all can be had: 1 and 1; but what is not there can not. */
    private static void allTenths() {
        WordRents x = Edge.rich("acb");
        for (int which = 0; which < 3; which++) {
            let(x, 10, which, 1, 1);
        }
        DUE.is("29: 11", x.let(11, 0, 0), WordRents.LOST + OUTSIDE);
        DUE.is("29: -1", x.let(-1, 0, 0), WordRents.LOST + OUTSIDE);
    }

    /** "Fractions are told in lowest terms": two WORDS at each t. */
    private static void lowestTerms() {
        WordRents x = WordsTest.fourWords();
        Due.say(x, "aca");
        long[][] due = {{0, 1}, {1, 100}, {1, 25}, {9, 100}, {4, 25}, {1, 4}, {9, 25}, {49, 100}, {16, 25}, {81, 100}, {1, 1}};
        for (int t = 0; t <= 10; t++) {
            let(x, t, 0, due[t][0], due[t][1]);
        }
    }

    /** Four nouns and four verbs: the lower number is ten to the eighth. */
    private static void longestFractions() {
        WordRents x = new WordRents();
        for (int w = 0; w < 8; w++) {
            x.word(w, w % 2, 0, 0, 0);
        }
        let(x, 1, 1, 3439L * 3439, 100000000);
        let(x, 9, 1, 9999L * 9999, 100000000);
        let(x, 5, 1, 225, 256);
        Edge.tell(x, "aba");
        Edge.tell(x, "cdc");
        Edge.tell(x, "efe");
        Edge.tell(x, "ghg");
        let(x, 1, 2, 100000000 - 99L * 99 * 99 * 99, 100000000);
        let(x, 9, 2, 100000000 - 19L * 19 * 19 * 19, 100000000);
    }

    /** "each WORD can be had ... each by itself": one that stands thrice is had once; five need five. */
    private static void eachWordOnce() {
        WordRents x = new WordRents();
        x.word(0, 0, 0, 0, 0);
        x.word(1, 1, 0, 0, 0);
        x.word(2, 0, 0, 0, 0);
        x.word(3, 2, 0, 0, 0);
        x.word(4, 0, 0, 0, 0);
        Due.say(x, "abada");
        let(x, 1, 0, 1, 1000);
        Due.say(x, "abcde");
        let(x, 1, 0, 1, 100000);
        let(x, 3, 0, 243, 100000);
        Due.say(x, "aba");
        let(x, 1, 0, 1, 100);
    }

    /** "that some SENTENCE of 3 WORDS can": without nouns or verbs none can, joiners do not matter. */
    private static void letWithoutSomeSort() {
        WordRents x = new WordRents();
        for (int w = 0; w < 4; w++) {
            x.word(w, 0, 0, 0, 0);
        }
        let(x, 10, 1, 0, 1);
        for (int w = 4; w < 8; w++) {
            x.word(w, 2, 0, 0, 0);
        }
        let(x, 10, 1, 0, 1);
        x.word(4, 1, 0, 0, 0);
        let(x, 10, 1, 1, 1);
        for (int w = 0; w < 4; w++) {
            x.word(w, 1, 0, 0, 0);
        }
        let(x, 10, 1, 0, 1);
    }

    /** "that some of the LIST can": of none, none. */
    private static void letWithoutAList() {
        WordRents x = WordsTest.fourWords();
        let(x, 10, 2, 0, 1);
        Edge.tell(x, "aca");
        let(x, 10, 2, 1, 1);
        x.forget(0);
        let(x, 10, 2, 0, 1);
    }

    private static void letOfAStruckList() {
        WordRents x = WordsTest.fourWords();
        Edge.tell(x, "aca");
        Edge.tell(x, "bcb");
        let(x, 1, 2, 19, 1000);
        x.strikeOut(1);
        let(x, 1, 2, 1, 100);
        x.strikeOut(2);
        let(x, 10, 2, 0, 1);
        let(x, 10, 1, 0, 1);
    }

    /** "by part: 0 the upper, 1 the lower number". */
    private static void letParts() {
        WordRents x = Edge.rich("acb");
        for (int which = 0; which < 3; which++) {
            DUE.is("29: part 2", x.let(5, which, 2), WordRents.LOST + OUTSIDE);
            DUE.is("29: part -1", x.let(5, which, -1), WordRents.LOST + OUTSIDE);
        }
        DUE.is("29: which 3", x.let(5, 3, 0), WordRents.LOST + OUTSIDE);
        DUE.is("29: which -1", x.let(5, -1, 0), WordRents.LOST + OUTSIDE);
    }

    /** "NO (of 0)": only the SENTENCE on the PAD needs one. */
    private static void letNeedsNoPad() {
        WordRents x = WordsTest.fourWords();
        Edge.tell(x, "aca");
        for (String pad : new String[] {"", "ac", "0a+", "acaa"}) {
            Due.say(x, pad);
            DUE.is("29: NO of '" + pad + "'", x.let(5, 0, 0), WordRents.LOST + NO);
            let(x, 5, 1, 3, 8);
            let(x, 5, 2, 1, 4);
        }
    }

    /** "how many (i = -1), the i-th": 0 and 0, 1 and 1. */
    private static void restsOfAll() {
        WordRents x = Edge.rich("");
        DUE.is("30: how many", x.rests(0, 1, -1), 2);
        DUE.is("30: the 0th", x.rests(0, 1, 0), 0);
        DUE.is("30: the 1st", x.rests(0, 1, 1), 11);
    }

    /** "NONE": behind the last; ahead of the first, as well. */
    private static void restsBelowAndAbove() {
        WordRents x = Edge.rich("");
        for (int i : new int[] {2, 3, 99, 100, Edge.MAX, -2, -3, -100, Edge.MIN}) {
            DUE.is("30: " + i, x.rests(0, 1, i), NONE);
        }
    }

    /** All WORDS from 0 to 7 can be rivals, of any SORT, on either side, whatever their RENTS are. */
    private static void restsOfEachPlace() {
        for (int sort = 0; sort < 3; sort++) {
            WordRents x = new WordRents();
            for (int w = 0; w < 8; w++) {
                x.word(w, sort, w % 5, w % 4, 14 * w);
            }
            DUE.lease(x, "0a+1b+2c+3d+0e+1f+2g+3h+");
            for (int w = 0; w < 8; w++) {
                DUE.is("30: " + w + " and its next", x.rests(w, (w + 1) % 8, -1), 2);
                DUE.is("30: " + w + " and itself", x.rests(w, w, -1), UNKNOWN);
                DUE.is("30: " + w + " and one of the same HOLDER", x.rests(w, (w + 4) % 8, -1), STATE);
            }
        }
    }

    /** "different HOLDERS (FIRMS)": nobody is none. */
    private static void restsOfFirms() {
        WordRents x = new WordRents();
        x.word(0, 0, 0, 0, 0);
        x.word(1, 0, 0, 0, 0);
        DUE.is("30: both nobody's", x.rests(0, 1, -1), STATE);
        DUE.lease(x, "0a+");
        DUE.is("30: the second nobody's", x.rests(0, 1, -1), STATE);
        DUE.is("30: the first nobody's", x.rests(1, 0, -1), STATE);
        DUE.lease(x, "0b+");
        DUE.is("30: both FIRM 0's", x.rests(0, 1, -1), STATE);
        DUE.lease(x, "0b-3b+");
        DUE.is("30: FIRM 0's and FIRM 3's", x.rests(0, 1, -1), 2);
    }

    /** One noun alone, by its number; all others are missing. */
    private static WordRents only(int word) {
        WordRents x = new WordRents();
        x.word(word, 0, 0, 0, 10);
        return x;
    }

    /** The draw of one DAY is of this WORD, and of no other. */
    private static void draws(int seed, int word) {
        for (int w = 0; w < 8; w++) {
            DUE.is("31: seed " + seed + " takes " + w, only(w).year(seed, 1, 0), w == word ? 1 : 0);
            DUE.is("31: seed " + seed + " RENT of " + w, only(w).year(seed, 1, 2), w == word ? 11 : 10);
        }
    }

    /** The FIRM of the first draw: its own WORD it gives up, another's it leaves. */
    private static void drawsFirm(int seed, int word, int firm) {
        for (int f = 0; f < 4; f++) {
            WordRents x = only(word);
            DUE.lease(x, f + "" + (char) ('a' + word) + "+");
            DUE.is("31: seed " + seed + " gives up of " + f, x.year(seed, 1, 1), f == firm ? 1 : 0);
            DUE.is("31: seed " + seed + " takes none of " + f, x.year(seed, 1, 0), 0);
        }
    }

    /** Seed 0: x is 74, FIRM 2 and WORD 2. */
    private static void seedLeast() {
        draws(0, 2);
        drawsFirm(0, 2, 2);
        DUE.is("31: -1", new WordRents().year(-1, 1, 0), OUTSIDE);
    }

    /** Seed 9999: 749999 leaves 29092, FIRM 0 and WORD 1. */
    private static void seedMost() {
        draws(9999, 1);
        drawsFirm(9999, 1, 0);
        DUE.is("31: 10000", new WordRents().year(10000, 1, 0), OUTSIDE);
    }

    /** "left over by 65537": seed 872 makes 65474, which stays; 873 makes 65549, which leaves 12; 1747 leaves 25. */
    private static void seedWraps() {
        draws(872, 0);
        drawsFirm(872, 0, 2);
        draws(873, 3);
        drawsFirm(873, 3, 0);
        draws(1746, 3);
        drawsFirm(1746, 3, 3);
        draws(1747, 6);
        drawsFirm(1747, 6, 1);
    }

    /** "WORD x by 4 (cut) left over by 8": all eight are drawn by some seed, as are the four FIRMS. */
    private static void seedsOfEachWord() {
        boolean[] drawn = new boolean[32];
        for (int seed = 0; seed < 60; seed++) {
            int x = 75 * seed + 74;
            int firm = x % 4;
            int word = x / 4 % 8;
            if (!drawn[8 * firm + word]) {
                drawn[8 * firm + word] = true;
                draws(seed, word);
                drawsFirm(seed, word, firm);
            }
        }
        int all = 0;
        for (boolean one : drawn) {
            all += one ? 1 : 0;
        }
        DUE.is("31: all pairs were drawn", all, 32);
    }

    /** "m DAYS (1 to 99)": one; none is OUTSIDE. */
    private static void yearOfOneDay() {
        WordRents x = only(2);
        DUE.is("31: 1", x.year(0, 1, 0), 1);
        DUE.is("31: 0", x.year(0, 0, 0), OUTSIDE);
        DUE.is("31: -1", x.year(0, -1, 0), OUTSIDE);
    }

    /** "m DAYS (1 to 99)": a WORD alone, draw by draw, up to the last DAY. */
    private static void yearOfMostDays() {
        WordRents z = new WordRents();
        z.word(0, 0, 0, 0, 0);
        z.set(0, 99);
        DUE.lease(z, "0a+");
        int x = 9;
        int holder = 0;
        int rent = 0;
        int taken = 0;
        int given = 0;
        for (int day = 1; day <= 99; day++) {
            x = (75 * x + 74) % 65537;
            boolean drawn = x / 4 % 8 == 0;
            if (drawn && holder == 4) {
                holder = x % 4;
                taken++;
            } else if (drawn && holder == x % 4) {
                holder = 4;
                given++;
            }
            rent += holder == 4 ? 0 : 1;
            DUE.is("31: taken by " + day, z.year(9, day, 0), taken);
            DUE.is("31: given up by " + day, z.year(9, day, 1), given);
            DUE.is("31: RENT by " + day, z.year(9, day, 2), rent);
        }
        DUE.isTrue("31: there was both", taken > 0 && given > 0);
        DUE.is("31: 100", z.year(9, 100, 0), OUTSIDE);
    }

    /** "takes a lease ..., if that can be; else gives it up, if that can be": never both on a DAY. */
    private static void yearTakesElseGives() {
        WordRents x = only(2);
        DUE.is("31: taken", x.year(0, 1, 0) * 10 + x.year(0, 1, 1), 10);
        DUE.lease(x, "2c+");
        DUE.is("31: given up", x.year(0, 1, 0) * 10 + x.year(0, 1, 1), 1);
        x.strikeOut(2);
        DUE.is("31: no such WORD", x.year(0, 1, 0) * 10 + x.year(0, 1, 1), 0);
    }

    private static void yearGivesOnlyItsOwn() {
        for (int firm = 0; firm < 4; firm++) {
            WordRents x = only(2);
            DUE.lease(x, firm + "c+");
            DUE.is("31: of FIRM " + firm, x.year(0, 1, 1), firm == 2 ? 1 : 0);
            DUE.is("31: RENT of FIRM " + firm, x.year(0, 1, 2), firm == 2 ? 10 : 11);
        }
    }

    /** "ahead of each": what is taken goes up on the same DAY, what is given up stays, and drifts. */
    private static void yearDayBehindTheAct() {
        WordRents x = only(2);
        DUE.is("31: taken, then a DAY", x.year(0, 1, 2), 11);
        DUE.is("31: then a DAY more", x.year(0, 2, 2), 12);
        x.word(3, 0, 0, 0, 30);
        DUE.lease(x, "2c+");
        DUE.is("31: given up, and near another", x.year(0, 1, 2), 10 + 30);
        DUE.lease(x, "1d+");
        DUE.is("31: given up, it undercuts the other", x.year(0, 1, 2), 10 + 29);
    }

    /** "from all as it is": HOLDERS, RENTS, CAP, DRIFT, DAYS that have passed. */
    private static void yearFromAllAsItIs() {
        WordRents x = only(2);
        x.set(0, 10);
        DUE.is("31: CAP", x.year(0, 3, 2), 10);
        x.set(0, 99);
        DUE.is("31: another CAP", x.year(0, 3, 2), 13);
        DUE.lease(x, "2c+2c^2c^");
        DUE.is("31: HOLDER and RENT", x.year(0, 3, 2), 12);
        // f drifts near a by the third DAY in all: then a goes down.
        WordRents y = new WordRents();
        y.word(0, 0, 1, 0, 10);
        y.word(5, 0, 0, 0, 0);
        y.far(0, 1, 9);
        DUE.lease(y, "0a+");
        DUE.is("31: three DAYS up", y.year(0, 3, 2), 13);
        DUE.is("31: then down", y.year(0, 4, 2), 12);
        DUE.lease(y, "..");
        DUE.is("31: one DAY up", y.year(0, 1, 2), 13);
        DUE.is("31: then down, for two had passed", y.year(0, 2, 2), 12);
        y.set(1, 9);
        DUE.is("31: another DRIFT", y.year(0, 4, 2), 16);
    }

    /** "Nothing is DONE in fact." */
    private static void yearIsNotDone() {
        WordRents x = Edge.rich("0a-");
        WordRents y = Edge.rich("0a-");
        for (int seed = 0; seed < 100; seed += 9) {
            x.year(seed, 99, seed % 3);
        }
        DUE.isTrue("31: all is as it was", Edge.look(x).equals(Edge.look(y)));
    }

    /** "STATE: it was not": of each IMAGE by itself. */
    private static void imageNotKept() {
        for (int n = 0; n < 2; n++) {
            WordRents x = new WordRents();
            DUE.is("33: not kept", x.restore(n), STATE);
            DUE.is("32: the other", x.image(1 - n), 1);
            DUE.is("33: not kept yet", x.restore(n), STATE);
            DUE.is("33: the other", x.restore(1 - n), 1);
            DUE.is("33: not kept by a restore", x.restore(n), STATE);
            DUE.is("32: now", x.image(n), 1);
            DUE.is("33: it was", x.restore(n), 1);
        }
    }

    /** An IMAGE of a new object takes all away. */
    private static void imageOfNothing() {
        WordRents x = Edge.full("");
        DUE.is("33: the new one", x.restore(1), 1);
        DUE.isTrue("33: all is as at first", Edge.look(x).equals(Edge.look(new WordRents())));
    }

    /** What is changed behind a restore does not change the IMAGE. */
    private static void imageKeepsItsOwn() {
        WordRents x = Edge.rich("");
        x.image(0);
        for (int turn = 0; turn < 2; turn++) {
            x.strikeOut(turn);
            x.far(0, 4, 9);
            x.set(0, 99);
            x.set(1, 9);
            x.forget(0);
            x.forget(1);
            DUE.lease(x, "2d^.....");
            DUE.is("33: again", x.restore(0), 1);
        }
        DUE.isTrue("33: it is as it was kept", Edge.look(x).equals(Edge.look(Edge.rich(""))));
    }

    private static void imageOverAnOlder() {
        WordRents x = only(0);
        x.image(0);
        x.word(1, 1, 0, 0, 0);
        x.image(0);
        x.strikeOut(0);
        x.strikeOut(1);
        x.restore(0);
        DUE.is("32: the later one", x.told(1), 3);
    }

    /** "All but the PAD is kept": it is neither kept nor brought back, empty or full. */
    private static void imageLeavesThePad() {
        WordRents x = WordsTest.fourWords();
        Due.say(x, "aca");
        x.image(0);
        DUE.is("34: three signs", x.told(0), 3);
        x.wipe();
        x.restore(0);
        DUE.is("34: none came back", x.told(0), 0);
        Due.say(x, ".".repeat(60));
        x.restore(0);
        DUE.is("34: none went", x.told(0), 60);
        DUE.is("6: full yet", x.say('.'), Edge.FULL);
    }

    /** "It is as it was when it was kept": HOLDERS and DAYS too. */
    private static void restoreOfHolders() {
        WordRents x = only(3);
        DUE.lease(x, "1d+..");
        x.image(1);
        DUE.lease(x, "1d-....2d+");
        x.restore(1);
        DUE.is("33: HOLDER", x.state(3, 1), 1);
        DUE.is("33: RENT", x.state(3, 0), 12);
        DUE.is("33: MEANING", x.state(3, 2), 0);
        DUE.is("33: DAYS", x.told(4), 2);
    }

    /** A full LIST and full SIGHTS come back full; empty ones have room again. */
    private static void restoreOfFullLists() {
        WordRents x = Edge.full("");
        x.image(0);
        x.forget(0);
        x.forget(1);
        x.image(1);
        x.restore(0);
        Due.say(x, "aca");
        DUE.is("33: the LIST is full", x.list(), Edge.FULL);
        DUE.is("33: SIGHTS are full", x.seen(0, 0), Edge.FULL);
        x.restore(1);
        DUE.is("33: the LIST has room", x.list(), 1);
        DUE.is("33: SIGHTS have room", x.seen(0, 0), 1);
    }

    private static void toldAtFirst() {
        WordRents x = new WordRents();
        int[] due = {0, 0, 20, 3, 0, 0, 0, OUTSIDE, OUTSIDE, OUTSIDE, OUTSIDE, OUTSIDE};
        for (int what = 0; what < due.length; what++) {
            DUE.is("34: " + what, x.told(what), due[what]);
        }
        DUE.is("34: -1", x.told(-1), OUTSIDE);
    }

    /** All of it as great as it can be. */
    private static void toldAtMost() {
        WordRents x = Edge.full(".".repeat(60));
        x.set(0, 99);
        x.set(1, 9);
        int[] due = {60, 255, 99, 9, 1, 4, 6};
        for (int what = 0; what < due.length; what++) {
            DUE.is("34: " + what, x.told(what), due[what]);
        }
    }

    /** "10 times (1 and a WORD that there is) and 0 SORT, 1 RHYME". */
    private static void toldOfWords() {
        WordRents x = new WordRents();
        for (int w = 0; w < 8; w++) {
            DUE.is("34: not yet", x.told(10 + 10 * w), OUTSIDE);
            x.word(w, w % 3, 0, w % 4, 0);
            DUE.is("34: SORT", x.told(10 + 10 * w), w % 3);
            DUE.is("34: RHYME", x.told(11 + 10 * w), w % 4);
            DUE.is("34: nothing else", x.told(12 + 10 * w), OUTSIDE);
            DUE.is("34: nor ahead", x.told(9 + 10 * w), OUTSIDE);
        }
        DUE.is("34: no WORD 8", x.told(90), OUTSIDE);
        DUE.is("34: no WORD 8, RHYME", x.told(91), OUTSIDE);
        x.strikeOut(7);
        DUE.is("34: no more", x.told(80), OUTSIDE);
    }

    /** "100 and 10 times a MEANING and another: FAR". */
    private static void toldOfFar() {
        WordRents x = new WordRents();
        for (int a = 0; a < 12; a++) {
            for (int b = 0; b < 10; b++) {
                int due = a > 4 || b > 4 ? OUTSIDE : a == b ? 0 : 1;
                DUE.is("34: " + a + " " + b, x.told(100 + 10 * a + b), due);
            }
        }
        x.far(0, 4, 9);
        DUE.is("34: first and last", x.told(104) * 10 + x.told(140), 99);
    }
}

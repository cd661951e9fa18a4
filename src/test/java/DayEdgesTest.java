/** Promises 14 to 20, and what "Terms" says of ACTS and DAYS: each sentence that names an edge has its own test. */
public final class DayEdgesTest {
    private static final Due DUE = new Due("DayEdgesTest");
    private static final int NONE = Edge.NONE, UNKNOWN = Edge.UNKNOWN, OUTSIDE = Edge.OUTSIDE, NO = Edge.NO;

    public static void main(String[] args) {
        noSuchWord();
        anotherHolder();
        takenByAnyOne();
        noHolder();
        rentIsTop();
        rentIsNothing();
        leastOfReasons();
        firstThatCanNotBe();
        nothingToJudge();
        daysCanAlwaysBe();
        doneOfNothing();
        doneOfAFullPad();
        doneWholeOrNotAtAll();
        acts();
        rentFallsToNothing();
        rentStopsAtCap();
        rentAboveCap();
        capOfOne();
        capOfNinetyNine();
        nobodysRentStays();
        lessFarThanTwo();
        costsLess();
        anotherFirmOrNobody();
        ofItsSort();
        byTheDayAhead();
        daysAreCounted();
        driftEachDay();
        driftAtMost();
        driftByAllDays();
        meaningWraps();
        heldDoesNotDrift();
        behindNothing();
        behindIsNotDone();
        afterNoDays();
        afterMostDays();
        afterIsNotDone();
        settlesAtOnce();
        settlesAtLast();
        settlesTooLate();
        settlesWithoutDrift();
        roundFromNow();
        roundFromLater();
        roundAtLast();
        roundTooLate();
        roundNotIfSettled();
        askedAsItIsNow();
        DUE.end();
    }

    private static void judge(WordRents x, String text, int act, int why) {
        Due.say(x, text);
        DUE.is("14: " + text + " which", x.judge(0), act);
        DUE.is("14: " + text + " why", x.judge(1), why);
        DUE.is("15: " + text, x.behind(0, 0) == NO ? 1 : 0, act == NONE ? 0 : 1);
    }

    /** a is FIRM 0's at 50, b FIRM 1's at 99, c FIRM 2's at 0, d nobody's at 99, e nobody's at 0; there are no others. */
    private static WordRents five() {
        WordRents x = new WordRents();
        x.word(0, 0, 0, 0, 50);
        x.word(1, 0, 1, 1, 99);
        x.word(2, 1, 2, 2, 0);
        x.word(3, 2, 3, 3, 99);
        x.word(4, 0, 4, 0, 0);
        DUE.lease(x, "0a+1b+2c+");
        return x;
    }

    /** "1 there is no such WORD": for each ACT and FIRM, of one that never was and of one that is no more. */
    private static void noSuchWord() {
        WordRents x = five();
        for (String sign : new String[] {"+", "-", "^", "v"}) {
            judge(x, "0f" + sign, 0, 1);
            judge(x, "3h" + sign, 0, 1);
        }
        x.strikeOut(1);
        for (String sign : new String[] {"+", "-", "^", "v"}) {
            judge(x, "1b" + sign, 0, 1);
        }
    }

    /** "2 it has another HOLDER". */
    private static void anotherHolder() {
        WordRents x = five();
        for (String sign : new String[] {"-", "^", "v"}) {
            judge(x, "1a" + sign, 0, 2);
            judge(x, "3a" + sign, 0, 2);
            judge(x, "0a" + sign, NONE, NONE);
        }
    }

    /** "(+: any one)": not even its own HOLDER takes a lease of it again. */
    private static void takenByAnyOne() {
        WordRents x = five();
        for (int firm = 0; firm < 4; firm++) {
            judge(x, firm + "a+", 0, 2);
            judge(x, firm + "b+", 0, 2);
            judge(x, firm + "c+", 0, 2);
            judge(x, firm + "d+", NONE, NONE);
            judge(x, firm + "e+", NONE, NONE);
        }
    }

    /** "3 (but +) it has none". */
    private static void noHolder() {
        WordRents x = five();
        x.word(5, 0, 0, 0, 50);
        for (String sign : new String[] {"-", "^", "v"}) {
            judge(x, "0f" + sign, 0, 3);
            judge(x, "3f" + sign, 0, 3);
        }
        judge(x, "3f+", NONE, NONE);
        judge(x, "0a-0a-", 1, 3);
        judge(x, "0a-0a^", 1, 3);
        judge(x, "0a-1a+", NONE, NONE);
    }

    /** "4 RENT is 99 (^)": 98 may be asked one more for, once; the other ACTS do not mind. */
    private static void rentIsTop() {
        WordRents x = five();
        judge(x, "1b^", 0, 4);
        judge(x, "1bv", NONE, NONE);
        judge(x, "1b-", NONE, NONE);
        judge(x, "1bv1b^", NONE, NONE);
        judge(x, "1bv1b^1b^", 2, 4);
        judge(x, "3d+", NONE, NONE);
        judge(x, "3d+3d^", 1, 4);
        x.word(0, 0, 0, 0, 98);
        judge(x, "0a+0a^", NONE, NONE);
        judge(x, "0a+0a^0a^", 2, 4);
    }

    /** "4 RENT is ... 0 (v)". */
    private static void rentIsNothing() {
        WordRents x = five();
        judge(x, "2cv", 0, 4);
        judge(x, "2c^", NONE, NONE);
        judge(x, "2c-", NONE, NONE);
        judge(x, "2c^2cv", NONE, NONE);
        judge(x, "2c^2cv2cv", 2, 4);
        judge(x, "3e+", NONE, NONE);
        judge(x, "3e+3ev", 1, 4);
        x.word(0, 0, 0, 0, 1);
        judge(x, "0a+0av", NONE, NONE);
        judge(x, "0a+0av0av", 2, 4);
    }

    /** "for the least of these reasons": another HOLDER, or none, ahead of the RENT. */
    private static void leastOfReasons() {
        WordRents x = five();
        judge(x, "0b^", 0, 2);
        judge(x, "0cv", 0, 2);
        judge(x, "0d^", 0, 3);
        judge(x, "0ev", 0, 3);
    }

    /** "the first ACT or DAY (from 0 on) that can not be": DAYS are counted with ACTS, later faults do not matter. */
    private static void firstThatCanNotBe() {
        WordRents x = five();
        judge(x, "0h+0a+", 0, 1);
        judge(x, "0a-0a+0a+0h+", 2, 2);
        judge(x, ".0h+", 1, 1);
        judge(x, ".....0h+", 5, 1);
        judge(x, "0a-.0a+.0a+", 4, 2);
        judge(x, ".".repeat(57) + "0h+", 57, 1);
        judge(x, "0a-0a+".repeat(9) + "0a-0a-", 19, 3);
    }

    /** "NONE": no ACTS, or all can be. */
    private static void nothingToJudge() {
        judge(five(), "", NONE, NONE);
        WordRents x = new WordRents();
        DUE.is("14: nothing, without WORDS", x.judge(0), NONE);
        DUE.is("14: nothing, why", x.judge(1), NONE);
        DUE.is("14: -1", x.judge(-1), OUTSIDE);
        DUE.is("14: 2", x.judge(2), OUTSIDE);
    }

    private static void daysCanAlwaysBe() {
        WordRents x = new WordRents();
        Due.say(x, ".".repeat(60));
        DUE.is("14: sixty DAYS", x.judge(0), NONE);
        judge(five(), ".".repeat(60), NONE, NONE);
        judge(five(), "2c-.2c+.2c^", NONE, NONE);
        // A DAY takes b from 99 to 98, for e is nobody's: then one more can be asked.
        judge(five(), ".1b^", NONE, NONE);
        judge(five(), ".1b^1b^", 2, 4);
    }

    /** LEASES of no ACTS are DONE: nothing is. */
    private static void doneOfNothing() {
        WordRents x = five();
        x.wipe();
        DUE.is("15: nothing", x.done(), 0);
        DUE.is("15: nothing again", x.done(), 0);
        DUE.is("34: no DAY", x.told(4), 0);
    }

    /** "(it is empty then): ACTS and DAYS": 20 ACTS or 60 DAYS fill the PAD. */
    private static void doneOfAFullPad() {
        WordRents x = five();
        Due.say(x, "0a-0a+".repeat(10));
        DUE.is("15: 20 ACTS", x.done(), 20);
        DUE.is("34: the PAD is empty", x.told(0), 0);
        DUE.is("15: then nothing", x.done(), 0);
        Due.say(x, ".".repeat(60));
        DUE.is("15: 60 DAYS", x.done(), 60);
        DUE.is("34: the PAD is empty again", x.told(0), 0);
        DUE.is("6: and has room", x.say('.'), 1);
    }

    /** "NO: there is a FAULT (1), or an ACT that can not be": what stands ahead of it is not DONE. */
    private static void doneWholeOrNotAtAll() {
        WordRents x = five();
        for (String text : new String[] {"0a^0a-3d+.0h+", "0a^0a-3d+.0", "0a^0a-3d+.0a", "0a^..0a^1a-", "4a+", "acb"}) {
            Due.say(x, text);
            DUE.is("15: " + text, x.done(), NO);
            DUE.is("15: RENT " + text, x.state(0, 0), 50);
            DUE.is("15: HOLDER " + text, x.state(0, 1), 0);
            DUE.is("15: d " + text, x.state(3, 1), 4);
            DUE.is("15: DAYS " + text, x.told(4), 0);
            DUE.is("15: the PAD stays " + text, x.told(0), text.length());
        }
    }

    /** What each ACT does, and nothing else. */
    private static void acts() {
        WordRents x = five();
        DUE.lease(x, "0a^");
        DUE.is("15: one more", x.state(0, 0) * 10 + x.state(0, 1), 510);
        DUE.lease(x, "0av0av");
        DUE.is("15: one less, twice", x.state(0, 0) * 10 + x.state(0, 1), 490);
        DUE.lease(x, "0a-");
        DUE.is("15: given up", x.state(0, 0) * 10 + x.state(0, 1), 494);
        DUE.lease(x, "3a+");
        DUE.is("15: taken", x.state(0, 0) * 10 + x.state(0, 1), 493);
        DUE.lease(x, "2c^1bv");
        DUE.is("15: from 0 up, from 99 down", x.state(2, 0) * 100 + x.state(1, 0), 198);
        DUE.is("15: d and e stay", x.state(3, 0) * 10 + x.state(4, 0), 990);
        x.set(0, 1);
        DUE.lease(x, "2c^2c^");
        DUE.is("15: what one asks is not held by CAP", x.state(2, 0), 3);
    }

    /** One WORD held by FIRM 0 beside one of another HOLDER; the first one's RENT by the end of a DAY. */
    private static int next(int rent, int cap, int other, int far, String leases) {
        WordRents x = new WordRents();
        x.word(0, 0, 0, 0, rent);
        x.word(1, 0, 1, 0, other);
        x.far(0, 1, far);
        x.set(0, cap);
        DUE.lease(x, leases);
        return x.after(0, 1, 0);
    }

    /** "goes down by one (0 at least)": from 1 to 0; at 0 nothing costs less, so it goes up. */
    private static void rentFallsToNothing() {
        DUE.is("18: 2", next(2, 20, 0, 1, "0a+1b+"), 1);
        DUE.is("18: 1", next(1, 20, 0, 1, "0a+1b+"), 0);
        DUE.is("18: 1 by nobody's", next(1, 20, 50, 1, "0a+"), 0);
        DUE.is("18: 0 by what is 0 too", next(0, 20, 0, 1, "0a+1b+"), 1);
        DUE.is("18: 0 by nobody's", next(0, 20, 50, 1, "0a+"), 1);
        WordRents x = new WordRents();
        x.word(0, 0, 0, 0, 2);
        x.word(1, 0, 0, 0, 50);
        DUE.lease(x, "0a+");
        int[] rents = {2, 1, 0, 1, 0, 1};
        for (int day = 0; day < rents.length; day++) {
            DUE.is("18: by DAY " + day, x.after(0, day, 0), rents[day]);
        }
    }

    /** "else up by one (CAP at most)". */
    private static void rentStopsAtCap() {
        DUE.is("18: two below CAP", next(18, 20, 99, 9, "0a+"), 19);
        DUE.is("18: one below CAP", next(19, 20, 99, 9, "0a+"), 20);
        DUE.is("18: at CAP", next(20, 20, 99, 9, "0a+"), 20);
    }

    /** "not, if it is above it already": it keeps its RENT, but goes down if something near costs less. */
    private static void rentAboveCap() {
        DUE.is("18: one above CAP", next(21, 20, 99, 9, "0a+"), 21);
        DUE.is("18: far above CAP", next(99, 20, 99, 9, "0a+"), 99);
        DUE.is("18: above CAP, undercut", next(21, 20, 20, 1, "0a+1b+"), 20);
        DUE.is("18: at CAP, undercut", next(20, 20, 19, 1, "0a+1b+"), 19);
    }

    private static void capOfOne() {
        DUE.is("18: 0 to CAP 1", next(0, 1, 99, 9, "0a+"), 1);
        DUE.is("18: 1 at CAP 1", next(1, 1, 99, 9, "0a+"), 1);
        DUE.is("18: 2 above CAP 1", next(2, 1, 99, 9, "0a+"), 2);
    }

    private static void capOfNinetyNine() {
        DUE.is("18: 98 to CAP 99", next(98, 99, 99, 9, "0a+"), 99);
        DUE.is("18: 99 at CAP 99", next(99, 99, 99, 9, "0a+"), 99);
        DUE.is("18: 99 undercut", next(99, 99, 98, 1, "0a+1b+"), 98);
    }

    /** "(What nobody holds keeps its RENT.)": neither up to CAP nor down, at 0 and at 99. */
    private static void nobodysRentStays() {
        for (int rent : new int[] {0, 1, 50, 99}) {
            WordRents x = new WordRents();
            x.word(0, 0, 0, 0, rent);
            x.word(1, 0, 0, 0, 0);
            DUE.lease(x, "1b+");
            DUE.is("18: nobody's " + rent, x.after(0, 99, 0), rent);
            DUE.lease(x, "....");
            DUE.is("15: nobody's " + rent, x.state(0, 0), rent);
        }
    }

    /** "is less far from it than 2 by MEANING". */
    private static void lessFarThanTwo() {
        for (int far = 0; far <= 9; far++) {
            DUE.is("18: far " + far, next(10, 20, 9, far, "0a+1b+"), far < 2 ? 9 : 11);
            DUE.is("18: nobody's, far " + far, next(10, 20, 9, far, "0a+"), far < 2 ? 9 : 11);
        }
    }

    /** "and costs less": as much is not less; nobody's costs 0, so only a RENT of 0 withstands it. */
    private static void costsLess() {
        DUE.is("18: one less", next(10, 20, 9, 1, "0a+1b+"), 9);
        DUE.is("18: as much", next(10, 20, 10, 1, "0a+1b+"), 11);
        DUE.is("18: one more", next(10, 20, 11, 1, "0a+1b+"), 11);
        DUE.is("18: nobody's dearer one", next(10, 20, 11, 1, "0a+"), 9);
        DUE.is("18: nobody's dearest one", next(1, 20, 99, 1, "0a+"), 0);
    }

    /** "held by another FIRM, or by nobody": not by the same. */
    private static void anotherFirmOrNobody() {
        DUE.is("18: FIRM 0's", next(10, 20, 9, 1, "0a+0b+"), 11);
        for (int firm = 1; firm < 4; firm++) {
            DUE.is("18: FIRM " + firm + "'s", next(10, 20, 9, 1, "0a+" + firm + "b+"), 9);
            DUE.is("18: both FIRM " + firm + "'s", next(10, 20, 9, 1, firm + "a+" + firm + "b+"), 11);
        }
        DUE.is("18: given up again", next(10, 20, 9, 1, "0a+0b+0b-"), 9);
    }

    /** "of its SORT". */
    private static void ofItsSort() {
        for (int sort = 0; sort < 3; sort++) {
            for (int other = 0; other < 3; other++) {
                WordRents x = new WordRents();
                x.word(6, sort, 0, 0, 10);
                x.word(7, other, 0, 0, 5);
                DUE.lease(x, "0g+1h+");
                DUE.is("18: SORT " + sort + " by " + other, x.after(6, 1, 0), sort == other ? 9 : 11);
                DUE.is("18: the cheap one", x.after(7, 1, 0), 6);
            }
        }
    }

    /** "all RENTS go at once, by those of the day ahead": a row of eight, each as dear as the one ahead but one. */
    private static void byTheDayAhead() {
        WordRents x = new WordRents();
        for (int w = 0; w < 8; w++) {
            x.word(w, 0, 0, 0, 10 - w % 2);
        }
        DUE.lease(x, "0a+1b+0c+1d+0e+1f+0g+1h+");
        for (int w = 0; w < 8; w++) {
            DUE.is("18: one DAY, " + w, x.after(w, 1, 0), 9 + w % 2);
            DUE.is("18: two DAYS, " + w, x.after(w, 2, 0), 10 - w % 2);
        }
    }

    /** "DAYS that have passed are counted (0 at first)": far beyond 99, too. */
    private static void daysAreCounted() {
        WordRents x = new WordRents();
        DUE.is("34: at first", x.told(4), 0);
        for (int turn = 1; turn <= 6; turn++) {
            Due.say(x, ".".repeat(60));
            DUE.is("15: sixty", x.done(), 60);
            DUE.is("34: in all", x.told(4), 60 * turn);
        }
        DUE.lease(x, ".");
        DUE.is("34: one more", x.told(4), 361);
    }

    /** DRIFT 1: each DAY. */
    private static void driftEachDay() {
        WordRents x = new WordRents();
        x.word(0, 0, 0, 0, 0);
        x.set(1, 1);
        for (int day = 0; day <= 11; day++) {
            DUE.is("18: by DAY " + day, x.after(0, day, 2), day % 5);
        }
        DUE.lease(x, ".");
        DUE.is("15: in fact", x.state(0, 2), 1);
    }

    /** DRIFT 9: the 9th, the 18th DAY, and none between. */
    private static void driftAtMost() {
        WordRents x = new WordRents();
        x.word(0, 0, 2, 0, 0);
        x.set(1, 9);
        for (int day : new int[] {0, 1, 8, 9, 10, 17, 18, 19, 26, 27, 98, 99}) {
            DUE.is("18: by DAY " + day, x.after(0, day, 2), (2 + day / 9) % 5);
        }
    }

    /** "a whole number of times DRIFT": of all DAYS that have passed, whenever the WORD or DRIFT came. */
    private static void driftByAllDays() {
        WordRents x = new WordRents();
        DUE.lease(x, ".....");
        x.word(0, 0, 0, 0, 0);
        DUE.is("18: the sixth", x.after(0, 1, 2), 1);
        DUE.is("18: the eighth", x.after(0, 3, 2), 1);
        DUE.is("18: the ninth", x.after(0, 4, 2), 2);
        x.set(1, 7);
        DUE.is("18: the sixth is none now", x.after(0, 1, 2), 0);
        DUE.is("18: the seventh", x.after(0, 2, 2), 1);
        DUE.lease(x, "..");
        DUE.is("15: it has drifted", x.state(0, 2), 1);
        DUE.lease(x, "......");
        DUE.is("15: the thirteenth is none", x.state(0, 2), 1);
        DUE.lease(x, ".");
        DUE.is("15: the fourteenth", x.state(0, 2), 2);
    }

    /** "its MEANING is one more (0 behind 4)". */
    private static void meaningWraps() {
        for (int meaning = 0; meaning < 5; meaning++) {
            WordRents x = new WordRents();
            x.word(3, 1, meaning, 0, 7);
            Due.say(x, "...");
            DUE.is("17: from " + meaning, x.behind(3, 2), meaning == 4 ? 0 : meaning + 1);
            DUE.is("18: from " + meaning, x.after(3, 3, 2), meaning == 4 ? 0 : meaning + 1);
            x.done();
            DUE.is("15: from " + meaning, x.state(3, 2), meaning == 4 ? 0 : meaning + 1);
            DUE.is("18: all the way round", x.after(3, 12, 2), meaning);
        }
    }

    /** "each WORD that nobody holds drifts": one that is taken ahead of the DAY does not, one that is given up does. */
    private static void heldDoesNotDrift() {
        WordRents x = new WordRents();
        x.word(0, 0, 4, 0, 7);
        Due.say(x, "..0a+.");
        DUE.is("17: taken in time", x.behind(0, 2), 4);
        Due.say(x, "...0a+");
        DUE.is("17: taken too late", x.behind(0, 2), 0);
        Due.say(x, "0a+..0a-.");
        DUE.is("17: given up ahead of it", x.behind(0, 2), 0);
        Due.say(x, "0a+...0a-..");
        DUE.is("17: given up behind it", x.behind(0, 2), 4);
    }

    /** BEHIND no ACTS all is as it is. */
    private static void behindNothing() {
        WordRents x = five();
        x.wipe();
        for (int w = 0; w < 5; w++) {
            for (int what = 0; what < 3; what++) {
                DUE.is("17: " + w + " " + what, x.behind(w, what), x.state(w, what));
            }
        }
        DUE.is("17: no such WORD", x.behind(5, 0), UNKNOWN);
    }

    private static void behindIsNotDone() {
        WordRents x = five();
        Due.say(x, "0a^0a-3e+...");
        DUE.is("17: HOLDERS", x.behind(0, 1) * 10 + x.behind(4, 1), 43);
        DUE.is("17: twice the same", x.behind(0, 0), 51);
        DUE.is("16: a as it was", x.state(0, 0) * 10 + x.state(0, 1), 500);
        DUE.is("16: e as it was", x.state(4, 1), 4);
        DUE.is("34: no DAY", x.told(4), 0);
        DUE.is("34: the PAD stays", x.told(0), 12);
    }

    /** "AFTER m DAYS (0 to 99)": none. */
    private static void afterNoDays() {
        WordRents x = five();
        x.set(1, 1);
        for (int w = 0; w < 5; w++) {
            for (int what = 0; what < 3; what++) {
                DUE.is("18: " + w + " " + what, x.after(w, 0, what), x.state(w, what));
            }
        }
        DUE.is("18: -1", x.after(0, -1, 0), OUTSIDE);
    }

    /** "AFTER m DAYS (0 to 99)": the most. */
    private static void afterMostDays() {
        WordRents x = new WordRents();
        x.word(0, 0, 0, 0, 0);
        x.word(1, 1, 0, 0, 0);
        x.set(0, 99);
        x.set(1, 1);
        DUE.lease(x, "3a+");
        DUE.is("18: 98", x.after(0, 98, 0), 98);
        DUE.is("18: 99", x.after(0, 99, 0), 99);
        DUE.is("18: MEANING by 99", x.after(1, 99, 2), 4);
        DUE.is("18: HOLDER by 99", x.after(0, 99, 1), 3);
        DUE.is("18: 100", x.after(0, 100, 0), OUTSIDE);
    }

    private static void afterIsNotDone() {
        WordRents x = five();
        x.after(0, 99, 0);
        DUE.is("34: no DAY", x.told(4), 0);
        DUE.is("16: RENT", x.state(0, 0), 50);
        DUE.is("16: MEANING", x.state(4, 2), 4);
        DUE.is("18: it goes by no text on the PAD", x.say('!') + x.after(0, 1, 0), 1 + 49);
    }

    /** A WORD alone in its SORT goes up to CAP and stays. */
    private static WordRents lonely(int rent) {
        WordRents x = new WordRents();
        x.word(0, 0, 0, 0, rent);
        x.set(0, 99);
        DUE.lease(x, "0a+");
        return x;
    }

    /** "the first DAY (1 to 99) that changes no RENT": the first of all. */
    private static void settlesAtOnce() {
        DUE.is("19: no WORDS", new WordRents().settles(), 1);
        DUE.is("19: none held", WordsTest.fourWords().settles(), 1);
        DUE.is("19: at CAP", lonely(99).settles(), 1);
        WordRents x = lonely(50);
        x.set(0, 20);
        DUE.is("19: above CAP", x.settles(), 1);
        DUE.is("19: one below CAP", lonely(98).settles(), 2);
    }

    /** "the first DAY (1 to 99)": the last that counts. */
    private static void settlesAtLast() {
        DUE.is("19: DAY 98", lonely(2).settles(), 98);
        DUE.is("19: DAY 99", lonely(1).settles(), 99);
        DUE.is("20: it settles", lonely(1).round(), NONE);
    }

    /** "NONE": the 100th DAY would be the first. */
    private static void settlesTooLate() {
        DUE.is("19: DAY 100", lonely(0).settles(), NONE);
        DUE.is("20: and nothing comes again", lonely(0).round(), NONE);
    }

    /** "if WORDS did not drift": DAYS that have passed, and DRIFT, do not matter. */
    private static void settlesWithoutDrift() {
        for (int drift = 1; drift <= 9; drift++) {
            WordRents x = new WordRents();
            x.word(0, 0, 0, 0, 15);
            x.word(1, 0, 1, 0, 0);
            x.far(0, 1, 9);
            x.set(1, drift);
            DUE.lease(x, "0a+");
            DUE.is("19: with DRIFT " + drift, x.settles(), 6);
            DUE.is("20: with DRIFT " + drift, x.round(), NONE);
            DUE.is("34: no DAY passed", x.told(4), 0);
        }
    }

    /** A WORD beside a nobody's one of the same MEANING goes down to 0, then up and down. */
    private static WordRents undercut(int rent) {
        WordRents x = new WordRents();
        x.word(0, 0, 0, 0, rent);
        x.word(1, 0, 0, 0, 0);
        DUE.lease(x, "0a+");
        return x;
    }

    /** "the first two DAYS' ends (or now)": now is one of them. */
    private static void roundFromNow() {
        DUE.is("20: from 0", undercut(0).round(), 2);
        DUE.is("20: from 1", undercut(1).round(), 2);
        DUE.is("19: never still", undercut(1).settles(), NONE);
    }

    /** Now is none of them: it counts only what lies between the two. */
    private static void roundFromLater() {
        DUE.is("20: from 2", undercut(2).round(), 2);
        DUE.is("20: from 40", undercut(40).round(), 2);
        DUE.is("19: never still", undercut(40).settles(), NONE);
    }

    /** "within 99 DAYS": 98 falls to 0 by DAY 98 and is 1 again, as on DAY 97, by DAY 99. */
    private static void roundAtLast() {
        DUE.is("20: from 97", undercut(97).round(), 2);
        DUE.is("20: from 98", undercut(98).round(), 2);
    }

    /** "NONE": it comes again by DAY 100. */
    private static void roundTooLate() {
        DUE.is("20: from 99", undercut(99).round(), NONE);
        DUE.is("19: nor is it still", undercut(99).settles(), NONE);
    }

    /** "if there is none": what settles does not go round, though RENTS are the same on two DAYS. */
    private static void roundNotIfSettled() {
        DUE.is("20: no WORDS", new WordRents().round(), NONE);
        DUE.is("20: none held", WordsTest.fourWords().round(), NONE);
        DUE.is("20: at once", lonely(99).round(), NONE);
        DUE.is("20: later", lonely(60).round(), NONE);
    }

    /** What was tried by an earlier call is forgotten: each call goes by what is now, though no LEASES came between. */
    private static void askedAsItIsNow() {
        WordRents x = undercut(5);
        x.strikeOut(1);
        DUE.is("20: settles, without b", x.round(), NONE);
        x.word(1, 0, 0, 0, 0);
        DUE.is("20: goes round with it", x.round(), 2);
        x.strikeOut(1);
        DUE.is("19: the 16th DAY", x.settles(), 16);
        DUE.is("18: up by one", x.after(0, 1, 0), 6);
        x.word(1, 0, 0, 0, 0);
        DUE.is("19: not with it", x.settles(), NONE);
        DUE.is("18: down by one", x.after(0, 1, 0), 4);
        Due.say(x, ".");
        DUE.is("17: down by one", x.behind(0, 0), 4);
        x.strikeOut(1);
        DUE.is("17: up by one", x.behind(0, 0), 6);
        DUE.is("31: up by one", x.year(0, 1, 2), 6);
        DUE.is("15: one DAY", x.done(), 1);
        DUE.is("16: up by one", x.state(0, 0), 6);
    }
}

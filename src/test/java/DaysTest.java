/** Promises 14 to 20: judge, done, state, behind, after, settles, round. */
public final class DaysTest {
    private static final int MIN = Integer.MIN_VALUE, MAX = Integer.MAX_VALUE;
    private static final Due DUE = new Due("DaysTest");

    public static void main(String[] args) {
        reasons();
        judgePlace();
        judgeRefusals();
        done();
        state();
        behind();
        undercut();
        undercutNot();
        atOnce();
        cap();
        drift();
        driftCountsAllDays();
        rentsAheadOfDrift();
        after();
        settles();
        round();
        noDriftWhenSettling();
        DUE.end();
    }

    private static void judge(WordRents x, String text, int act, int why) {
        Due.say(x, text);
        DUE.is("14: " + text + " which", x.judge(0), act);
        DUE.is("14: " + text + " why", x.judge(1), why);
    }

    private static void reasons() {
        WordRents x = new WordRents();
        x.word(0, 0, 0, 0, 99);
        x.word(1, 0, 0, 0, 0);
        x.word(2, 0, 0, 0, 50);
        DUE.lease(x, "0a+1b+");
        for (String sign : new String[] {"+", "-", "^", "v"}) {
            judge(x, "0h" + sign, 0, 1);
        }
        judge(x, "0a+", 0, 2);
        judge(x, "1a+", 0, 2);
        judge(x, "1a-", 0, 2);
        judge(x, "1a^", 0, 2);
        judge(x, "0bv", 0, 2);
        judge(x, "0c-", 0, 3);
        judge(x, "0c^", 0, 3);
        judge(x, "0cv", 0, 3);
        judge(x, "0a^", 0, 4);
        judge(x, "1bv", 0, 4);
        judge(x, "0c+", WordRents.NONE, WordRents.NONE);
        judge(x, "0a-", WordRents.NONE, WordRents.NONE);
        judge(x, "0av", WordRents.NONE, WordRents.NONE);
        judge(x, "1b^", WordRents.NONE, WordRents.NONE);
        judge(x, "1b^1bv", WordRents.NONE, WordRents.NONE);
        judge(x, "1b^1bv1bv", 2, 4);
        judge(x, "0av0a^0a^", 2, 4);
        x.set(0, 1);
        judge(x, "2c+2c^", WordRents.NONE, WordRents.NONE);
    }

    private static void judgePlace() {
        WordRents x = new WordRents();
        x.word(0, 0, 0, 0, 98);
        judge(x, "", WordRents.NONE, WordRents.NONE);
        judge(x, "...", WordRents.NONE, WordRents.NONE);
        judge(x, "0a+0a-1a+0a-", 3, 2);
        judge(x, "0a+0a^0a^", 2, 4);
        judge(x, "..0a-", 2, 3);
        judge(x, "0a+.1b+0a+", 2, 1);
        judge(x, "0a+0a-0a^", 2, 3);
        DUE.is("14: nothing is DONE", x.state(0, 1) * 100 + x.state(0, 0), 498);
        DUE.is("14: no DAY has passed", x.told(4), 0);
        DUE.is("14: the PAD stays", x.told(0), 9);
    }

    private static void judgeRefusals() {
        WordRents x = new WordRents();
        Due.say(x, "0a");
        DUE.is("14: a FAULT", x.judge(0), WordRents.NO);
        DUE.is("14: a FAULT, why", x.judge(1), WordRents.NO);
        DUE.is("14: OUTSIDE is first", x.judge(2), WordRents.OUTSIDE);
        DUE.is("14: -1", x.judge(-1), WordRents.OUTSIDE);
        DUE.is("15: a FAULT", x.done(), WordRents.NO);
        Due.say(x, "0a+");
        DUE.is("15: can not be", x.done(), WordRents.NO);
        DUE.is("15: the PAD stays", x.told(0), 3);
    }

    private static void done() {
        WordRents x = new WordRents();
        DUE.is("15: nothing", x.done(), 0);
        x.word(0, 0, 0, 0, 10);
        x.word(1, 1, 0, 0, 10);
        Due.say(x, "0a+0a^0a^0av1b+1b-.");
        DUE.is("15: ACTS and DAYS", x.done(), 7);
        DUE.is("15: the PAD is empty", x.told(0), 0);
        DUE.is("15: RENT", x.state(0, 0), 12);
        DUE.is("15: HOLDER", x.state(0, 1), 0);
        DUE.is("15: given up", x.state(1, 1), 4);
        DUE.is("15: DAYS", x.told(4), 1);
        doneKeepsTheRest();
        Due.say(x, "..0a^1a-");
        DUE.is("15: the last can not be", x.done(), WordRents.NO);
        DUE.is("15: then nothing is", x.told(4) * 100 + x.state(0, 0), 112);
        StringBuilder days = new StringBuilder();
        for (int i = 0; i < 60; i++) {
            days.append('.');
        }
        Due.say(x, days.toString());
        DUE.is("15: sixty", x.done(), 60);
        DUE.is("15: sixty more", x.told(4), 61);
    }

    /** LEASES leave the LIST, SIGHTS, FAR, CAP, DRIFT alone. */
    private static void doneKeepsTheRest() {
        WordRents x = WordsTest.fourWords();
        Due.say(x, "bcb");
        x.list();
        x.seen(1, 8);
        x.seen(2, 9);
        x.far(0, 4, 8);
        x.set(0, 77);
        x.set(1, 8);
        DUE.lease(x, "0a+.");
        DUE.is("15: the LIST", x.told(5) * 10 + x.held(1), 12);
        DUE.is("15: SIGHTS", x.told(6), 2);
        DUE.is("15: FAR", x.told(140), 8);
        DUE.is("15: CAP and DRIFT", x.told(2) * 10 + x.told(3), 778);
    }

    private static void state() {
        WordRents x = new WordRents();
        x.word(5, 0, 3, 0, 42);
        DUE.lease(x, "2f+");
        DUE.is("16: RENT", x.state(5, 0), 42);
        DUE.is("16: HOLDER", x.state(5, 1), 2);
        DUE.is("16: MEANING", x.state(5, 2), 3);
        for (int bad : new int[] {-1, 8, 4, 37, MIN, MAX}) {
            DUE.is("16: no WORD " + bad, x.state(bad, 9), WordRents.UNKNOWN);
            DUE.is("17: no WORD " + bad, x.behind(bad, 9), WordRents.UNKNOWN);
            DUE.is("18: no WORD " + bad, x.after(bad, 100, 9), WordRents.UNKNOWN);
        }
        DUE.is("16: what -1", x.state(5, -1), WordRents.OUTSIDE);
        DUE.is("16: what 3", x.state(5, 3), WordRents.OUTSIDE);
    }

    private static void behind() {
        WordRents x = new WordRents();
        x.word(0, 0, 4, 0, 10);
        x.word(1, 0, 1, 0, 20);
        Due.say(x, "3b+3b^...");
        DUE.is("17: RENT", x.behind(1, 0), 18);
        DUE.is("17: HOLDER", x.behind(1, 1), 3);
        DUE.is("17: MEANING of a held one", x.behind(1, 2), 1);
        DUE.is("17: MEANING that drifts", x.behind(0, 2), 0);
        DUE.is("17: nothing is DONE", x.state(1, 0) * 10 + x.state(1, 1), 204);
        DUE.is("17: what 3", x.behind(1, 3), WordRents.OUTSIDE);
        DUE.is("17: what -1", x.behind(1, -1), WordRents.OUTSIDE);
        Due.say(x, "3b+3b");
        DUE.is("17: a FAULT", x.behind(1, 0), WordRents.NO);
        DUE.is("17: OUTSIDE is first", x.behind(1, 3), WordRents.OUTSIDE);
        DUE.is("17: UNKNOWN is first", x.behind(2, 3), WordRents.UNKNOWN);
        Due.say(x, "3b-");
        DUE.is("17: can not be", x.behind(0, 0), WordRents.NO);
        x.wipe();
        DUE.is("17: no ACTS", x.behind(1, 0), 20);
    }

    /** Two WORDS of one FIRM each; the RENT of the first after a DAY. */
    private static int tomorrow(int sort, int other, int far, String leases) {
        WordRents x = new WordRents();
        x.word(0, 0, 0, 0, 10);
        x.word(1, sort, 1, 0, other);
        x.far(0, 1, far);
        DUE.lease(x, leases);
        return x.after(0, 1, 0);
    }

    private static void undercut() {
        DUE.is("18: another FIRM's is cheaper", tomorrow(0, 9, 1, "0a+1b+"), 9);
        DUE.is("18: and near", tomorrow(0, 9, 0, "0a+1b+"), 9);
        DUE.is("18: nobody's costs 0", tomorrow(0, 99, 1, "0a+"), 9);
        DUE.is("18: nobody's of 0", tomorrow(0, 0, 1, "0a+"), 9);
    }

    private static void undercutNot() {
        DUE.is("18: as dear", tomorrow(0, 10, 1, "0a+1b+"), 11);
        DUE.is("18: dearer", tomorrow(0, 11, 1, "0a+1b+"), 11);
        DUE.is("18: too far", tomorrow(0, 9, 2, "0a+1b+"), 11);
        DUE.is("18: nobody's, too far", tomorrow(0, 9, 2, "0a+"), 11);
        DUE.is("18: the same FIRM's", tomorrow(0, 9, 1, "0a+0b+"), 11);
        DUE.is("18: another SORT", tomorrow(1, 9, 1, "0a+1b+"), 11);
        DUE.is("18: nobody holds it", tomorrow(0, 9, 1, "1b+"), 10);
        WordRents x = new WordRents();
        x.word(0, 0, 0, 0, 10);
        x.word(1, 0, 0, 0, 5);
        DUE.lease(x, "0a+");
        x.strikeOut(1);
        DUE.is("18: what is gone does not count", x.after(0, 1, 0), 11);
    }

    private static void atOnce() {
        WordRents x = new WordRents();
        x.word(0, 0, 0, 0, 10);
        x.word(1, 0, 0, 0, 9);
        DUE.lease(x, "0a+1b+");
        DUE.is("18: a goes down", x.after(0, 1, 0), 9);
        DUE.is("18: b goes by what a was", x.after(1, 1, 0), 10);
        DUE.is("18: then b goes down", x.after(1, 2, 0), 9);
        DUE.is("18: and a up", x.after(0, 2, 0), 10);
        DUE.is("19: RENTS change, though not in all", x.settles(), WordRents.NONE);
        DUE.is("20: and come again", x.round(), 2);
    }

    private static void cap() {
        WordRents x = new WordRents();
        x.word(0, 0, 0, 0, 19);
        x.word(1, 1, 0, 0, 30);
        DUE.lease(x, "0a+0b+");
        DUE.is("18: up to CAP", x.after(0, 1, 0), 20);
        DUE.is("18: not above it", x.after(0, 2, 0), 20);
        DUE.is("18: above it already", x.after(1, 5, 0), 30);
        x.set(0, 99);
        DUE.is("18: up to 99", x.after(0, 99, 0), 99);
        x.set(0, 5);
        DUE.is("18: CAP is lower now", x.after(0, 1, 0), 19);
        x.word(2, 0, 0, 0, 50);
        DUE.is("18: above CAP, but undercut", x.after(0, 1, 0), 18);
    }

    private static void drift() {
        WordRents x = new WordRents();
        x.word(0, 0, 3, 0, 7);
        x.word(1, 1, 3, 0, 7);
        DUE.lease(x, "0b+");
        DUE.is("18: not yet", x.after(0, 2, 2), 3);
        DUE.is("18: drifts", x.after(0, 3, 2), 4);
        DUE.is("18: 0 behind 4", x.after(0, 6, 2), 0);
        DUE.is("18: 33 times", x.after(0, 99, 2), 1);
        DUE.is("18: what is held does not", x.after(1, 99, 2), 3);
        DUE.is("18: its RENT stays", x.after(0, 99, 0), 7);
        x.set(1, 9);
        DUE.is("18: 9 DAYS", x.after(0, 8, 2) * 10 + x.after(0, 9, 2), 34);
    }

    private static void driftCountsAllDays() {
        WordRents x = new WordRents();
        x.word(0, 0, 0, 0, 7);
        DUE.lease(x, "..");
        DUE.is("18: the third DAY in all", x.after(0, 1, 2), 1);
        x.set(1, 2);
        DUE.is("18: 3 is not twice", x.after(0, 1, 2), 0);
        DUE.is("18: 4 is", x.after(0, 2, 2), 1);
        DUE.lease(x, "..");
        DUE.is("15: it drifts in fact", x.state(0, 2), 1);
        DUE.is("15: DAYS in all", x.told(4), 4);
    }

    /** On the DAY of a drift RENTS still go by what was near ahead of it. */
    private static void rentsAheadOfDrift() {
        WordRents x = new WordRents();
        x.word(0, 0, 0, 0, 10);
        x.word(1, 0, 1, 0, 10);
        x.far(0, 1, 9);
        x.set(1, 1);
        DUE.lease(x, "0a+");
        DUE.is("18: far away", x.after(0, 1, 0), 11);
        DUE.is("18: near, by the drift of the day ahead", x.after(0, 2, 0), 10);
    }

    private static void after() {
        WordRents x = new WordRents();
        x.word(0, 0, 2, 0, 10);
        DUE.lease(x, "1a+");
        DUE.is("18: 0 DAYS, RENT", x.after(0, 0, 0), 10);
        DUE.is("18: HOLDER", x.after(0, 5, 1), 1);
        DUE.is("18: MEANING", x.after(0, 5, 2), 2);
        DUE.is("18: nothing is DONE", x.state(0, 0) * 10 + x.told(4), 100);
        DUE.is("18: -1 DAYS", x.after(0, -1, 0), WordRents.OUTSIDE);
        DUE.is("18: 100 DAYS", x.after(0, 100, 0), WordRents.OUTSIDE);
        DUE.is("18: 99 DAYS", x.after(0, 99, 0), 20);
        DUE.is("18: what 3", x.after(0, 0, 3), WordRents.OUTSIDE);
        DUE.is("18: what -1", x.after(0, 0, -1), WordRents.OUTSIDE);
    }

    private static void settles() {
        WordRents x = new WordRents();
        DUE.is("19: no WORDS", x.settles(), 1);
        DUE.is("20: no WORDS", x.round(), WordRents.NONE);
        x.word(0, 0, 0, 0, 10);
        DUE.is("19: nobody's", x.settles(), 1);
        DUE.lease(x, "0a+");
        DUE.is("19: ten up, then still", x.settles(), 11);
        DUE.is("20: it settles", x.round(), WordRents.NONE);
        x.word(0, 0, 0, 0, 20);
        DUE.lease(x, "0a+");
        DUE.is("19: still at once", x.settles(), 1);
        x.set(0, 99);
        x.word(0, 0, 0, 0, 1);
        DUE.lease(x, "0a+");
        DUE.is("19: the 99th DAY", x.settles(), 99);
        x.word(0, 0, 0, 0, 0);
        DUE.lease(x, "0a+");
        DUE.is("19: the 100th is too late", x.settles(), WordRents.NONE);
        DUE.is("20: nothing comes again either", x.round(), WordRents.NONE);
        DUE.is("19: nothing is DONE", x.state(0, 0) * 10 + x.told(4), 0);
    }

    private static void round() {
        WordRents x = new WordRents();
        x.word(0, 0, 0, 0, 0);
        x.word(1, 0, 0, 0, 50);
        DUE.lease(x, "0a+");
        DUE.is("20: up and down", x.round(), 2);
        DUE.is("19: never still", x.settles(), WordRents.NONE);
        x.word(0, 0, 0, 0, 98);
        DUE.lease(x, "0a+");
        DUE.is("20: down to 0, then 1 again by the 99th DAY", x.round(), 2);
        x.word(0, 0, 0, 0, 99);
        DUE.lease(x, "0a+");
        DUE.is("20: the 100th is too late", x.round(), WordRents.NONE);
        DUE.is("19: and not still", x.settles(), WordRents.NONE);
    }

    /** With drift the WORD would come near; without it, RENTS only go up and stay. */
    private static void noDriftWhenSettling() {
        WordRents x = new WordRents();
        x.word(0, 0, 0, 0, 15);
        x.word(1, 0, 1, 0, 0);
        x.far(0, 1, 9);
        x.set(1, 1);
        DUE.lease(x, "0a+");
        DUE.is("19: as if nothing drifted", x.settles(), 6);
        DUE.is("18: but it does", x.after(0, 99, 0) < 20 ? 1 : 0, 1);
        x.far(0, 1, 1);
        x.far(0, 2, 9);
        x.far(0, 3, 9);
        x.far(0, 4, 9);
        DUE.is("20: as if nothing drifted", x.round(), 2);
    }
}

import java.util.ArrayList;
import java.util.List;
import java.util.function.ToLongFunction;

/**
 * "An object is used for at most 512 calls after it has been made": runs of just so many calls on one object, whose last
 * calls answer as the document asks, as the first do. Each call of the face is the 512th of some run.
 */
public final class LongRunsTest {
    private static final int CALLS = 512;
    private static final int NONE = Edge.NONE, UNKNOWN = Edge.UNKNOWN, OUTSIDE = Edge.OUTSIDE;
    private static final int STATE = Edge.STATE, FULL = Edge.FULL, NO = Edge.NO;
    private static final Due DUE = new Due("LongRunsTest");

    /** A call, and the answer that is due in the told republic. */
    private record Asked(String call, ToLongFunction<WordRents> of, long want) { }

    /** One object, and how many calls it has answered. */
    private static final class Run {
        private final String name;
        private final WordRents x = new WordRents();
        private int calls;

        Run(String name) {
            this.name = name;
        }

        void is(String call, ToLongFunction<WordRents> of, long want) {
            calls++;
            DUE.is(name + ", call " + calls + ", " + call, of.applyAsLong(x), want);
        }

        void is(Asked asked) {
            is(asked.call, asked.of, asked.want);
        }

        void say(String text) {
            for (int i = 0; i < text.length(); i++) {
                char sign = text.charAt(i);
                is("say " + sign, x -> x.say(sign), i + 1);
            }
        }

        int left() {
            return CALLS - calls;
        }

        void end() {
            DUE.is(name + ": as many calls as are promised", calls, CALLS);
        }
    }

    public static void main(String[] args) {
        List<Asked> all = questions();
        eachFirstAndLast(all);
        eachAllAlong(all);
        changedAndBack(all);
        imagesInTurn();
        objectsInTurn(all);
        wordsComeAndGo();
        farToAndFro();
        capAndDriftToAndFro();
        fullPad();
        leasesTakenAndGivenUp();
        rentsUpAndDown();
        dayByDay();
        mostDays();
        listAndSights();
        DUE.end();
    }

    /** 28 calls: four WORDS, three of them held, two SENTENCES told, two SIGHTS, an IMAGE, "acb" on the PAD. */
    private static Run told(String name) {
        Run run = new Run(name);
        run.is("word a", x -> x.word(0, 0, 0, 0, 10), 1);
        run.is("word b", x -> x.word(1, 0, 1, 1, 6), 2);
        run.is("word c", x -> x.word(2, 1, 2, 0, 8), 3);
        run.is("word d", x -> x.word(3, 2, 3, 2, 3), 4);
        run.say("0a+1b+0c+");
        run.is("done", x -> x.done(), 3);
        run.say("aca");
        run.is("list", x -> x.list(), 1);
        run.say("bcb");
        run.is("list", x -> x.list(), 2);
        run.is("seen", x -> x.seen(0, 2), 1);
        run.is("seen", x -> x.seen(1, 4), 2);
        run.is("image", x -> x.image(0), 1);
        run.say("acb");
        return run;
    }

    /** All that can be asked of the told republic without changing it; refused calls too. */
    private static List<Asked> questions() {
        List<Asked> all = new ArrayList<>();
        ofWords(all);
        ofPrices(all);
        ofDays(all);
        ofLists(all);
        ofChances(all);
        refused(all);
        return all;
    }

    private static void ofWords(List<Asked> all) {
        int[] told = {3, 15, 20, 3, 0, 2, 2, OUTSIDE};
        for (int i = 0; i < told.length; i++) {
            int what = i;
            all.add(new Asked("told " + what, x -> x.told(what), told[what]));
        }
        all.add(new Asked("told SORT of c", x -> x.told(30), 1));
        all.add(new Asked("told RHYME of d", x -> x.told(41), 2));
        all.add(new Asked("told of e", x -> x.told(50), OUTSIDE));
        all.add(new Asked("told FAR", x -> x.told(134), 1));
        all.add(new Asked("fault 0", x -> x.fault(0), NONE));
        all.add(new Asked("fault 1", x -> x.fault(1), 0));
        all.add(new Asked("state RENT", x -> x.state(0, 0), 10));
        all.add(new Asked("state HOLDER", x -> x.state(1, 1), 1));
        all.add(new Asked("state MEANING", x -> x.state(3, 2), 3));
    }

    private static void ofPrices(List<Asked> all) {
        int[] prices = {6, 14, 20, 20, 20};
        for (int i = 0; i < prices.length; i++) {
            int speaker = i;
            all.add(new Asked("price " + speaker, x -> x.price(speaker), prices[speaker]));
        }
        all.add(new Asked("gets 4 0", x -> x.gets(4, 0), 14));
        all.add(new Asked("gets 0 1", x -> x.gets(0, 1), 6));
        int[] nearly = {14, 1, 0, 2, 0, OUTSIDE};
        for (int i = 0; i < nearly.length; i++) {
            int what = i;
            all.add(new Asked("nearly " + what, x -> x.nearly(4, 1, what), nearly[what]));
        }
        int[] said = {4, 2, 0, 2, 0, NONE, NONE, OUTSIDE};
        for (int i = 0; i < said.length; i++) {
            int what = i;
            all.add(new Asked("said " + what, x -> x.said(4, 14, what), said[what]));
        }
        all.add(new Asked("said with too little", x -> x.said(4, 13, 2), NONE));
        int[] misprints = {2, 0, 1, 14, OUTSIDE};
        for (int i = 0; i < misprints.length; i++) {
            int what = i;
            all.add(new Asked("misprints " + what, x -> x.misprints(4, what), misprints[what]));
        }
    }

    private static void ofDays(List<Asked> all) {
        all.add(new Asked("judge, no LEASES", x -> x.judge(0), NO));
        all.add(new Asked("done, no LEASES", x -> x.done(), NO));
        all.add(new Asked("behind, no LEASES", x -> x.behind(0, 0), NO));
        // b costs less than a and is near: down, until b costs no less; c has no rival: up.
        all.add(new Asked("after 1 DAY, a", x -> x.after(0, 1, 0), 9));
        all.add(new Asked("after 1 DAY, b", x -> x.after(1, 1, 0), 7));
        all.add(new Asked("after 1 DAY, c", x -> x.after(2, 1, 0), 9));
        all.add(new Asked("after 3 DAYS, d", x -> x.after(3, 3, 2), 4));
        all.add(new Asked("after 6 DAYS, d", x -> x.after(3, 6, 2), 0));
        all.add(new Asked("after 99 DAYS, a", x -> x.after(0, 99, 0), 20));
        all.add(new Asked("settles", x -> x.settles(), 15));
        all.add(new Asked("round", x -> x.round(), NONE));
    }

    private static void ofLists(List<Asked> all) {
        all.add(new Asked("held 0", x -> x.held(0), 1));
        all.add(new Asked("held 1", x -> x.held(1), 4));
        all.add(new Asked("strike of none", x -> x.strike(0), 12));
        all.add(new Asked("strike of a", x -> x.strike(1), 2));
        all.add(new Asked("worst", x -> x.worst(), 2));
        int[] spoke = {3, 0, 2, 1, OUTSIDE};
        for (int i = 0; i < spoke.length; i++) {
            int what = i;
            all.add(new Asked("spoke " + what, x -> x.spoke(0, what), spoke[what]));
        }
        all.add(new Asked("who", x -> x.who(), 13));
    }

    private static void ofChances(List<Asked> all) {
        long[][] let = {{1, 8}, {3, 8}, {3, 8}};
        for (int i = 0; i < 6; i++) {
            int which = i / 2, part = i % 2;
            all.add(new Asked("let " + which + " " + part, x -> x.let(5, which, part), let[which][part]));
        }
        all.add(new Asked("rests, how many", x -> x.rests(0, 1, -1), 2));
        all.add(new Asked("rests, the last", x -> x.rests(1, 0, 1), 11));
        all.add(new Asked("rests, no more", x -> x.rests(1, 0, 2), NONE));
        int[] year = {7, 7, 77, OUTSIDE};
        for (int i = 0; i < year.length; i++) {
            int what = i;
            all.add(new Asked("year " + what, x -> x.year(77, 99, what), year[what]));
        }
    }

    private static void refused(List<Asked> all) {
        all.add(new Asked("word 8", x -> x.word(8, 0, 0, 0, 0), UNKNOWN));
        all.add(new Asked("word RENT 100", x -> x.word(0, 0, 0, 0, 100), OUTSIDE));
        all.add(new Asked("strikeOut e", x -> x.strikeOut(4), UNKNOWN));
        all.add(new Asked("far of one", x -> x.far(2, 2, 1), OUTSIDE));
        all.add(new Asked("set CAP 0", x -> x.set(0, 0), OUTSIDE));
        all.add(new Asked("say 127", x -> x.say(127), OUTSIDE));
        all.add(new Asked("fault 2", x -> x.fault(2), OUTSIDE));
        all.add(new Asked("price 5", x -> x.price(5), UNKNOWN));
        all.add(new Asked("gets FIRM 4", x -> x.gets(4, 4), UNKNOWN));
        all.add(new Asked("nearly SLACK 37", x -> x.nearly(4, 37, 0), OUTSIDE));
        all.add(new Asked("said PENCE 1000", x -> x.said(4, 1000, 0), OUTSIDE));
        all.add(new Asked("state of e", x -> x.state(4, 0), UNKNOWN));
        all.add(new Asked("after 100 DAYS", x -> x.after(0, 100, 0), OUTSIDE));
        all.add(new Asked("held 2", x -> x.held(2), OUTSIDE));
        all.add(new Asked("strike 256", x -> x.strike(256), OUTSIDE));
        all.add(new Asked("seen FIRM 4", x -> x.seen(4, 0), UNKNOWN));
        all.add(new Asked("forget 2", x -> x.forget(2), OUTSIDE));
        all.add(new Asked("spoke SIGHT 2", x -> x.spoke(2, 0), OUTSIDE));
        all.add(new Asked("let 11 tenths", x -> x.let(11, 1, 0), WordRents.LOST + OUTSIDE));
        all.add(new Asked("rests of one", x -> x.rests(0, 0, 0), UNKNOWN));
        all.add(new Asked("rests of two SORTS", x -> x.rests(0, 2, 0), STATE));
        all.add(new Asked("year of 0 DAYS", x -> x.year(0, 0, 0), OUTSIDE));
        all.add(new Asked("image 2", x -> x.image(2), OUTSIDE));
        all.add(new Asked("restore 1", x -> x.restore(1), STATE));
    }

    /** Each is asked first of all and then as the 512th call, with all others between, over and over. */
    private static void eachFirstAndLast(List<Asked> all) {
        for (int i = 0; i < all.size(); i++) {
            Run run = told(all.get(i).call + " first and last");
            run.is(all.get(i));
            for (int j = i + 1; run.left() > 1; j++) {
                run.is(all.get(j % all.size()));
            }
            run.is(all.get(i));
            run.end();
        }
    }

    private static void eachAllAlong(List<Asked> all) {
        for (Asked asked : all) {
            Run run = told(asked.call + " all along");
            while (run.left() > 0) {
                run.is(asked);
            }
            run.end();
        }
    }

    /** All is changed and brought back again and again; at the end all is asked once more. */
    private static void changedAndBack(List<Asked> all) {
        Run run = told("changed and back");
        while (run.left() >= 23 + all.size()) {
            run.is("image", x -> x.image(1), 1);
            run.is("word a", x -> x.word(0, 2, 4, 3, 99), 4);
            run.is("word h", x -> x.word(7, 0, 1, 1, 1), 5);
            run.is("strikeOut c", x -> x.strikeOut(2), 4);
            run.is("far", x -> x.far(3, 4, 9), 1);
            run.is("set CAP", x -> x.set(0, 99), 20);
            run.is("set DRIFT", x -> x.set(1, 1), 3);
            run.is("forget the LIST", x -> x.forget(0), 2);
            run.is("forget SIGHTS", x -> x.forget(1), 2);
            run.is("seen", x -> x.seen(3, 255), 1);
            run.is("wipe", x -> x.wipe(), 3);
            run.say("2d+.");
            run.is("done", x -> x.done(), 2);
            run.is("RENT of d", x -> x.state(3, 0), 4);
            run.is("MEANING of a", x -> x.state(0, 2), 0);
            run.is("restore", x -> x.restore(1), 1);
            run.is("DAYS", x -> x.told(4), 0);
            run.say("acb");
        }
        // From here on IMAGE 1 is kept, and every other answer is as it was.
        for (int i = 0; run.left() > 0; i++) {
            Asked asked = all.get(i % all.size());
            run.is(asked.call, asked.of, asked.call.equals("restore 1") ? 1 : asked.want);
        }
        run.end();
    }

    private static void imagesInTurn() {
        Run run = new Run("images in turn");
        while (run.left() > 8) {
            run.is("word a", x -> x.word(0, 0, 0, 0, 7), 1);
            run.is("image 0", x -> x.image(0), 1);
            run.is("word a anew", x -> x.word(0, 0, 0, 0, 70), 1);
            run.is("image 1", x -> x.image(1), 1);
            run.is("restore 0", x -> x.restore(0), 1);
            run.is("RENT", x -> x.state(0, 0), 7);
            run.is("restore 1", x -> x.restore(1), 1);
            run.is("RENT", x -> x.state(0, 0), 70);
        }
        while (run.left() > 1) {
            run.is("image 0", x -> x.image(0), 1);
        }
        run.is("restore 0", x -> x.restore(0), 1);
        run.end();
    }

    /** Two objects, a call each in turn: neither knows of the other. */
    private static void objectsInTurn(List<Asked> all) {
        Run one = told("one of two");
        Run bare = new Run("the bare one of two");
        for (int i = 0; one.left() > 0; i++) {
            one.is(all.get(i % all.size()));
            bare.is("told WORDS", x -> x.told(1), 0);
            bare.is("say", x -> x.say('a'), i < 60 ? i + 1 : FULL);
            if (bare.left() < 2) {
                bare = new Run("the next bare one of two");
                i = -1;
            }
        }
        one.end();
    }

    /** All eight come, all eight go; the 512th call strikes one out, or, a round of eight later, brings one. */
    private static void wordsComeAndGo() {
        for (int ahead = 0; ahead <= 8; ahead += 8) {
            Run run = new Run("words come and go");
            while (run.calls < ahead) {
                run.is("told WORDS", x -> x.told(1), 0);
            }
            while (run.left() > 0) {
                int at = run.calls - ahead;
                int word = at % 8;
                if (at / 8 % 2 == 0) {
                    run.is("word " + word, x -> x.word(word, at % 3, at % 5, at % 4, at % 100), word + 1);
                } else {
                    run.is("strikeOut " + word, x -> x.strikeOut(word), 7 - word);
                }
            }
            run.end();
        }
    }

    private static void farToAndFro() {
        Run run = new Run("far to and fro");
        int[] was = {1, 1, 1, 1, 1, 1, 1, 1, 1, 1};
        int[][] pairs = {{0, 1}, {2, 0}, {0, 3}, {4, 0}, {1, 2}, {3, 1}, {1, 4}, {3, 2}, {2, 4}, {4, 3}};
        while (run.left() > 0) {
            int i = run.calls % 10, v = run.calls * 7 % 10;
            boolean turned = run.calls / 10 % 2 == 1;
            int one = pairs[i][turned ? 1 : 0], other = pairs[i][turned ? 0 : 1];
            run.is("far " + one + " " + other + " " + v, x -> x.far(one, other, v), was[i]);
            was[i] = v;
        }
        run.end();
    }

    private static void capAndDriftToAndFro() {
        for (int which = 0; which < 2; which++) {
            int most = which == 0 ? 99 : 9, was = which == 0 ? 20 : 3, its = which;
            Run run = new Run("set " + which + " to and fro");
            while (run.left() > 0) {
                int v = 1 + run.calls * 5 % most;
                run.is("set " + v, x -> x.set(its, v), was);
                was = v;
            }
            run.end();
        }
    }

    /** FULL is told again and again, and the 60 signs stay as they are. */
    private static void fullPad() {
        Run run = new Run("a full PAD");
        run.say(".".repeat(60));
        while (run.left() > 3) {
            run.is("say", x -> x.say('a'), FULL);
        }
        run.is("signs", x -> x.told(0), 60);
        run.is("fault 1", x -> x.fault(1), NONE);
        run.is("wipe", x -> x.wipe(), 60);
        run.end();
    }

    /** 2 calls, then 5 each time; the last of all is done(). */
    private static void leasesTakenAndGivenUp() {
        Run run = new Run("leases taken and given up");
        run.is("word e", x -> x.word(4, 1, 0, 0, 50), 1);
        run.is("image", x -> x.image(0), 1);
        for (int i = 0; run.left() > 0; i++) {
            int firm = i / 2 % 4;
            run.is("HOLDER", x -> x.state(4, 1), i % 2 == 0 ? 4 : firm);
            run.say(firm + "e" + (i % 2 == 0 ? "+" : "-"));
            run.is("done", x -> x.done(), 1);
        }
        run.end();
    }

    /** A RENT goes up to 99 by ACTS, 20 of them a PAD, and down to 0: no other way is so long. */
    private static void rentsUpAndDown() {
        Run run = new Run("rents up and down");
        run.is("word a", x -> x.word(0, 0, 0, 0, 39), 1);
        run.say("3a+");
        run.is("done", x -> x.done(), 1);
        for (int i = 1; i <= 3; i++) {
            run.say("3a^".repeat(20));
            run.is("done", x -> x.done(), 20);
        }
        run.say("3a^");
        run.is("judge", x -> x.judge(1), 4);
        run.is("RENT", x -> x.state(0, 0), 99);
        run.is("wipe", x -> x.wipe(), 3);
        for (int i = 1; i <= 4; i++) {
            run.say("3av".repeat(20));
            run.is("done", x -> x.done(), 20);
            int rent = 99 - 20 * i;
            run.is("RENT", x -> x.state(0, 0), rent);
        }
        run.say("3av".repeat(19));
        run.is("done", x -> x.done(), 19);
        while (run.left() > 3) {
            run.is("RENT", x -> x.state(0, 0), 0);
        }
        run.say("3av");
        run.end();
    }

    /** "DAYS that have passed are counted": one by one, up to the last call. */
    private static void dayByDay() {
        Run run = new Run("day by day");
        run.is("word b", x -> x.word(1, 2, 4, 0, 33), 1);
        run.is("set DRIFT", x -> x.set(1, 7), 3);
        for (int day = 1; run.left() >= 5; day++) {
            int days = day;
            run.say(".");
            run.is("done", x -> x.done(), 1);
            run.is("DAYS", x -> x.told(4), days);
            run.is("MEANING", x -> x.state(1, 2), (4 + days / 7) % 5);
            run.is("RENT", x -> x.state(1, 0), 33);
        }
        run.end();
    }

    /** Eight PADS full of DAYS are the most that fit: 480. What comes behind them goes by all of them. */
    private static void mostDays() {
        for (int v = 1; v <= 9; v++) {
            int drift = v;
            Run run = new Run("most days, DRIFT " + drift);
            run.is("set DRIFT", x -> x.set(1, drift), 3);
            run.is("word a", x -> x.word(0, 0, 3, 0, 10), 1);
            run.is("word b", x -> x.word(1, 1, 2, 0, 10), 2);
            run.say("1a+");
            run.is("done", x -> x.done(), 1);
            for (int i = 0; i < 8; i++) {
                run.say(".".repeat(60));
                run.is("done", x -> x.done(), 60);
            }
            run.is("DAYS", x -> x.told(4), 480);
            run.is("RENT of a", x -> x.state(0, 0), 20);
            run.is("RENT of b", x -> x.state(1, 0), 10);
            run.is("MEANING of a", x -> x.state(0, 2), 3);
            run.is("MEANING of b", x -> x.state(1, 2), (2 + 480 / drift) % 5);
            run.is("settles", x -> x.settles(), 1);
            run.say(".");
            run.is("behind, MEANING of b", x -> x.behind(1, 2), (2 + 481 / drift) % 5);
            run.is("set CAP", x -> x.set(0, 99), 20);
            run.is("after 99 DAYS, RENT", x -> x.after(0, 99, 0), 99);
            for (int m = 0; run.left() > 0; m++) {
                int days = m == 0 ? 99 : m;
                run.is("after " + days + " DAYS", x -> x.after(1, days, 2), (2 + (480 + days) / drift) % 5);
            }
            run.end();
        }
    }

    /** LISTS and SIGHTS are filled and forgotten again and again. */
    private static void listAndSights() {
        Run run = new Run("list and sights");
        run.is("word a", x -> x.word(0, 0, 0, 0, 1), 1);
        run.is("word b", x -> x.word(1, 1, 0, 0, 1), 2);
        while (run.left() >= 34) {
            for (int i = 1; i <= 4; i++) {
                int many = i;
                run.say("aba");
                run.is("list", x -> x.list(), many);
            }
            run.say("aba");
            run.is("list", x -> x.list(), FULL);
            run.is("forget the LIST", x -> x.forget(0), 4);
            run.is("wipe", x -> x.wipe(), 3);
            for (int i = 1; i <= 6; i++) {
                int many = i;
                run.is("seen", x -> x.seen(many % 4, many), many);
            }
            run.is("seen", x -> x.seen(0, 0), FULL);
            run.is("held", x -> x.held(0), 0);
            run.is("forget SIGHTS", x -> x.forget(1), 6);
            run.is("spoke", x -> x.spoke(0, 0), OUTSIDE);
            run.is("let", x -> x.let(10, 2, 0), 0);
        }
        run.say("aba");
        while (run.left() > 1) {
            run.is("who", x -> x.who(), 15);
        }
        run.is("list", x -> x.list(), 1);
        run.end();
    }
}

import java.util.ArrayList;
import java.util.List;
import java.util.function.Supplier;
import java.util.function.ToLongFunction;

/**
 * What the tests of limits and refusals share: objects in told states, all that can be asked of one, and the test that a
 * refused call has changed nothing of that.
 */
final class Edge {
    static final int MIN = Integer.MIN_VALUE, MAX = Integer.MAX_VALUE;
    static final int NONE = WordRents.NONE, UNKNOWN = WordRents.UNKNOWN, OUTSIDE = WordRents.OUTSIDE;
    static final int STATE = WordRents.STATE, FULL = WordRents.FULL, NO = WordRents.NO;

    private Edge() { }

    /** Eight WORDS, six of them held, all settings changed, two SENTENCES told, three SIGHTS, two IMAGES of earlier days. */
    static WordRents rich(String pad) {
        WordRents x = new WordRents();
        x.image(1);
        x.word(0, 0, 0, 0, 10);
        x.word(1, 0, 1, 0, 6);
        x.word(2, 1, 2, 0, 8);
        x.word(3, 2, 3, 2, 3);
        x.word(4, 0, 4, 1, 0);
        x.word(5, 1, 1, 1, 99);
        x.word(6, 2, 0, 3, 50);
        x.word(7, 0, 2, 3, 20);
        tell(x, "bcb");
        x.seen(3, 9);
        x.image(0);
        Due.say(x, "0a+1b+0c+2d+3e+1f+.");
        x.done();
        x.far(0, 1, 0);
        x.far(1, 2, 5);
        x.set(0, 30);
        x.set(1, 2);
        tell(x, "afade");
        x.seen(0, 2);
        x.seen(1, 5);
        Due.say(x, pad);
        return x;
    }

    /** As rich, but with four SENTENCES told and six SIGHTS. */
    static WordRents full(String pad) {
        WordRents x = rich("");
        tell(x, "hfh");
        tell(x, "bcagb");
        x.seen(2, 7);
        x.seen(2, 0);
        x.seen(3, 255);
        Due.say(x, pad);
        return x;
    }

    static void tell(WordRents x, String sentence) {
        Due.say(x, sentence);
        x.list();
    }

    /** All that can be asked without changing anything, in some 280 calls: what was told before may take 200. */
    static List<Long> look(WordRents x) {
        List<Long> row = new ArrayList<>();
        for (int what = 0; what < 7; what++) {
            row.add((long) x.told(what));
        }
        for (int w = 0; w < 8; w++) {
            row.add((long) x.told(10 + 10 * w));
            row.add((long) x.told(11 + 10 * w));
            for (int what = 0; what < 3; what++) {
                row.add((long) x.state(w, what));
                row.add((long) x.behind(w, what));
            }
            row.add((long) x.after(w, 7, 0));
            row.add((long) x.after(w, 7, 2));
            row.add((long) x.strike(1 << w));
        }
        for (int pair = 0; pair < 25; pair++) {
            row.add((long) x.told(100 + 10 * (pair / 5) + pair % 5));
        }
        lookAtPad(x, row);
        lookAtRest(x, row);
        return row;
    }

    private static void lookAtPad(WordRents x, List<Long> row) {
        row.add((long) x.fault(0));
        row.add((long) x.fault(1));
        row.add((long) x.judge(0));
        row.add((long) x.judge(1));
        row.add((long) x.who());
        row.add(x.let(3, 0, 0));
        for (int speaker = 0; speaker < 5; speaker++) {
            row.add((long) x.price(speaker));
            row.add((long) x.gets(4, speaker));
            row.add((long) x.nearly(speaker, 4, speaker));
            row.add((long) x.misprints(speaker, 3));
            row.add((long) x.said(speaker, 20, 0));
        }
        for (int what = 0; what < 7; what++) {
            row.add((long) x.nearly(4, 0, what));
        }
    }

    private static void lookAtRest(WordRents x, List<Long> row) {
        for (int sight = 0; sight < 6; sight++) {
            for (int what = 0; what < 4; what++) {
                row.add((long) x.spoke(sight, what));
            }
        }
        for (int what = 0; what < 3; what++) {
            row.add((long) x.year(4711, 40, what));
        }
        row.add((long) x.held(0));
        row.add((long) x.held(1));
        row.add((long) x.worst());
        row.add((long) x.settles());
        row.add((long) x.round());
        row.add(x.let(3, 1, 0));
        row.add(x.let(3, 2, 0));
        row.add(x.let(3, 2, 1));
        row.add((long) x.rests(0, 1, -1));
    }

    /** The call is refused as told, and all is as it was without it, in both IMAGES too. */
    static void refused(Due due, String call, Supplier<WordRents> made, ToLongFunction<WordRents> asked, long refusal) {
        WordRents x = made.get();
        due.is(call, asked.applyAsLong(x), refusal);
        due.isTrue(call + " has changed nothing", look(x).equals(look(made.get())));
        for (int n = 0; n < 2; n++) {
            WordRents y = made.get();
            asked.applyAsLong(y);
            WordRents without = made.get();
            due.is(call + ", then restore " + n, y.restore(n), without.restore(n));
            due.isTrue(call + " has changed nothing of IMAGE " + n, look(y).equals(look(without)));
        }
    }
}

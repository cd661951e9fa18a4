import java.util.function.Supplier;

/**
 * Every number of every call: the first and the last that are taken and all between them, the next ones on both sides,
 * numbers far outside, and numbers that look right if their upper bits are lost. What is refused changes nothing.
 */
public final class LimitsTest {
    private static final Due DUE = new Due("LimitsTest");
    private static final String SENTENCE = "acb", LONGER = "acbdh", LEASES = "2g+0a-.";

    private interface Asked {
        long of(WordRents x, int v);
    }

    public static void main(String[] args) {
        words();
        pad();
        prices();
        pricesOfFive();
        days();
        lists();
        sights();
        chances();
        years();
        images();
        told();
        fullObjects();
        DUE.end();
    }

    private static void words() {
        Supplier<WordRents> made = () -> Edge.rich(SENTENCE);
        limits("2: WORD", made, 0, 7, Edge.UNKNOWN, (x, v) -> x.word(v, 1, 2, 3, 50));
        limits("2: SORT", made, 0, 2, Edge.OUTSIDE, (x, v) -> x.word(3, v, 2, 3, 50));
        limits("2: MEANING", made, 0, 4, Edge.OUTSIDE, (x, v) -> x.word(3, 1, v, 3, 50));
        limits("2: RHYME", made, 0, 3, Edge.OUTSIDE, (x, v) -> x.word(3, 1, 2, v, 50));
        limits("2: RENT", made, 0, 99, Edge.OUTSIDE, (x, v) -> x.word(3, 1, 2, 3, v));
        limits("3: WORD", made, 0, 7, Edge.UNKNOWN, (x, v) -> x.strikeOut(v));
        limits("4: MEANING below", made, 0, 3, Edge.OUTSIDE, (x, v) -> x.far(v, 4, 6));
        limits("4: MEANING above", made, 1, 4, Edge.OUTSIDE, (x, v) -> x.far(v, 0, 6));
        limits("4: other below", made, 0, 3, Edge.OUTSIDE, (x, v) -> x.far(4, v, 6));
        limits("4: other above", made, 1, 4, Edge.OUTSIDE, (x, v) -> x.far(0, v, 6));
        limits("4: FAR", made, 0, 9, Edge.OUTSIDE, (x, v) -> x.far(1, 3, v));
        limits("5: which", made, 0, 1, Edge.OUTSIDE, (x, v) -> x.set(v, 9));
        limits("5: CAP", made, 1, 99, Edge.OUTSIDE, (x, v) -> x.set(0, v));
        limits("5: DRIFT", made, 1, 9, Edge.OUTSIDE, (x, v) -> x.set(1, v));
    }

    private static void pad() {
        for (String pad : new String[] {"", SENTENCE, LEASES}) {
            Supplier<WordRents> made = () -> Edge.rich(pad);
            limits("6: sign behind " + pad, made, 33, 126, Edge.OUTSIDE, (x, v) -> x.say(v));
            limits("8: how of " + pad, made, 0, 1, Edge.OUTSIDE, (x, v) -> x.fault(v));
        }
    }

    private static void prices() {
        Supplier<WordRents> made = () -> Edge.rich(SENTENCE);
        limits("9: speaker", made, 0, 4, Edge.UNKNOWN, (x, v) -> x.price(v));
        limits("10: speaker", made, 0, 4, Edge.UNKNOWN, (x, v) -> x.gets(v, 3));
        limits("10: FIRM", made, 0, 3, Edge.UNKNOWN, (x, v) -> x.gets(4, v));
        limits("11: speaker", made, 0, 4, Edge.UNKNOWN, (x, v) -> x.nearly(v, 3, 2));
        limits("11: SLACK", made, 0, 36, Edge.OUTSIDE, (x, v) -> x.nearly(2, v, 2));
        limits("11: what of 3 WORDS", made, 0, 4, Edge.OUTSIDE, (x, v) -> x.nearly(2, 3, v));
        limits("12: speaker", made, 0, 4, Edge.UNKNOWN, (x, v) -> x.said(v, 20, 0));
        limits("12: PENCE", made, 0, 999, Edge.OUTSIDE, (x, v) -> x.said(1, v, 0));
        limits("12: what", made, 0, 6, Edge.OUTSIDE, (x, v) -> x.said(1, 20, v));
        limits("13: speaker", made, 0, 4, Edge.UNKNOWN, (x, v) -> x.misprints(v, 0));
        limits("13: what", made, 0, 3, Edge.OUTSIDE, (x, v) -> x.misprints(3, v));
    }

    private static void pricesOfFive() {
        Supplier<WordRents> made = () -> Edge.rich(LONGER);
        limits("9: speaker of 5 WORDS", made, 0, 4, Edge.UNKNOWN, (x, v) -> x.price(v));
        limits("11: SLACK of 5 WORDS", made, 0, 36, Edge.OUTSIDE, (x, v) -> x.nearly(2, v, 6));
        limits("11: what of 5 WORDS", made, 0, 6, Edge.OUTSIDE, (x, v) -> x.nearly(2, 3, v));
        limits("13: what of 5 WORDS", made, 0, 3, Edge.OUTSIDE, (x, v) -> x.misprints(3, v));
        // Without WORDS nothing can be said, but the numbers have the same limits.
        Supplier<WordRents> none = WordRents::new;
        limits("12: PENCE without WORDS", none, 0, 999, Edge.OUTSIDE, (x, v) -> x.said(4, v, 6));
        limits("12: what without WORDS", none, 0, 6, Edge.OUTSIDE, (x, v) -> x.said(4, 0, v));
    }

    private static void days() {
        Supplier<WordRents> made = () -> Edge.rich(LEASES);
        limits("14: what", made, 0, 1, Edge.OUTSIDE, (x, v) -> x.judge(v));
        limits("16: WORD", made, 0, 7, Edge.UNKNOWN, (x, v) -> x.state(v, 1));
        limits("16: what", made, 0, 2, Edge.OUTSIDE, (x, v) -> x.state(7, v));
        limits("17: WORD", made, 0, 7, Edge.UNKNOWN, (x, v) -> x.behind(v, 1));
        limits("17: what", made, 0, 2, Edge.OUTSIDE, (x, v) -> x.behind(0, v));
        limits("18: WORD", made, 0, 7, Edge.UNKNOWN, (x, v) -> x.after(v, 9, 2));
        limits("18: DAYS", made, 0, 99, Edge.OUTSIDE, (x, v) -> x.after(6, v, 2));
        limits("18: what", made, 0, 2, Edge.OUTSIDE, (x, v) -> x.after(6, 9, v));
    }

    private static void lists() {
        Supplier<WordRents> made = () -> Edge.rich(SENTENCE);
        limits("22: what", made, 0, 1, Edge.OUTSIDE, (x, v) -> x.held(v));
        limits("22: what, nothing told", WordRents::new, 0, 1, Edge.OUTSIDE, (x, v) -> x.held(v));
        limits("23: set", made, 0, 255, Edge.OUTSIDE, (x, v) -> x.strike(v));
        limits("23: set without WORDS", WordRents::new, 0, 255, Edge.OUTSIDE, (x, v) -> x.strike(v));
        limits("26: which", made, 0, 1, Edge.OUTSIDE, (x, v) -> x.forget(v));
        limits("26: which, nothing told", WordRents::new, 0, 1, Edge.OUTSIDE, (x, v) -> x.forget(v));
    }

    private static void sights() {
        Supplier<WordRents> made = () -> Edge.rich(SENTENCE);
        limits("25: FIRM", made, 0, 3, Edge.UNKNOWN, (x, v) -> x.seen(v, 12));
        limits("25: set", made, 0, 255, Edge.OUTSIDE, (x, v) -> x.seen(2, v));
        limits("25: set without WORDS", WordRents::new, 0, 255, Edge.OUTSIDE, (x, v) -> x.seen(0, v));
        limits("27: SIGHT of three", made, 0, 2, Edge.OUTSIDE, (x, v) -> x.spoke(v, 0));
        limits("27: SIGHT of six", () -> Edge.full(SENTENCE), 0, 5, Edge.OUTSIDE, (x, v) -> x.spoke(v, 3));
        limits("27: what", made, 0, 3, Edge.OUTSIDE, (x, v) -> x.spoke(2, v));
    }

    private static void chances() {
        long outside = WordRents.LOST + Edge.OUTSIDE;
        for (String pad : new String[] {SENTENCE, LONGER}) {
            Supplier<WordRents> made = () -> Edge.rich(pad);
            for (int kind = 0; kind < 3; kind++) {
                final int which = kind;
                limits("29: t of " + which, made, 0, 10, outside, (x, v) -> x.let(v, which, 1));
                limits("29: part of " + which, made, 0, 1, outside, (x, v) -> x.let(7, which, v));
            }
            limits("29: which", made, 0, 2, outside, (x, v) -> x.let(7, v, 0));
        }
        Supplier<WordRents> rivals = () -> Edge.rich(SENTENCE);
        for (int bad : new int[] {-1, 8, 32, -32, 256, 65536, Edge.MIN, Edge.MAX}) {
            Edge.refused(DUE, "30: WORD " + bad, rivals, x -> x.rests(bad, 1, 0), Edge.UNKNOWN);
            Edge.refused(DUE, "30: other " + bad, rivals, x -> x.rests(0, bad, -1), Edge.UNKNOWN);
            Edge.refused(DUE, "30: both " + bad, rivals, x -> x.rests(bad, bad, 1), Edge.UNKNOWN);
        }
    }

    private static void years() {
        Supplier<WordRents> made = () -> Edge.rich(SENTENCE);
        limits("31: seed", made, 0, 9999, Edge.OUTSIDE, (x, v) -> x.year(v, 5, 2));
        limits("31: DAYS", made, 1, 99, Edge.OUTSIDE, (x, v) -> x.year(12, v, 2));
        limits("31: what", made, 0, 2, Edge.OUTSIDE, (x, v) -> x.year(12, 5, v));
        limits("31: DAYS without WORDS", WordRents::new, 1, 99, Edge.OUTSIDE, (x, v) -> x.year(12, v, 0));
    }

    private static void images() {
        Supplier<WordRents> made = () -> Edge.rich(SENTENCE);
        limits("32: IMAGE", made, 0, 1, Edge.OUTSIDE, (x, v) -> x.image(v));
        limits("32: IMAGE, none kept", WordRents::new, 0, 1, Edge.OUTSIDE, (x, v) -> x.image(v));
        limits("33: IMAGE", made, 0, 1, Edge.OUTSIDE, (x, v) -> x.restore(v));
    }

    /** All that is told, and each number between that is not. */
    private static void told() {
        WordRents x = Edge.rich(SENTENCE);
        for (int what = -300; what <= 300; what++) {
            boolean some = what >= 0 && what <= 6;
            boolean ofWord = what >= 10 && what <= 81 && what % 10 <= 1;
            boolean ofFar = what >= 100 && what <= 144 && what % 10 <= 4;
            boolean refused = x.told(what) == Edge.OUTSIDE;
            DUE.isTrue("34: " + what + " is told or not", refused != (some || ofWord || ofFar));
            if (Math.floorMod(what, 250) == 249) {
                x = Edge.rich(SENTENCE);
            }
        }
        for (int bad : new int[] {-1, 7, 9, 12, 82, 90, 99, 105, 145, 150, Edge.MIN, Edge.MIN + 10, Edge.MAX, Edge.MAX - 7}) {
            Edge.refused(DUE, "34: " + bad, () -> Edge.rich(SENTENCE), y -> y.told(bad), Edge.OUTSIDE);
        }
    }

    /** OUTSIDE is told of a full object too, and asking it changes nothing. */
    private static void fullObjects() {
        Supplier<WordRents> made = () -> Edge.full("0a-" + ".".repeat(57));
        for (int bad : new int[] {32, 127, 0, -1, Edge.MIN, Edge.MAX}) {
            Edge.refused(DUE, "6: sign " + bad + " on a full PAD", made, x -> x.say(bad), Edge.OUTSIDE);
        }
        for (int bad : new int[] {-1, 256, Edge.MIN, Edge.MAX}) {
            Edge.refused(DUE, "25: set " + bad + " behind six SIGHTS", made, x -> x.seen(0, bad), Edge.OUTSIDE);
            Edge.refused(DUE, "25: FIRM " + bad + " behind six SIGHTS", made, x -> x.seen(bad, 0), Edge.UNKNOWN);
        }
    }

    /** All numbers from least to most are taken; what is next to them, or far off, is refused and changes nothing. */
    private static void limits(String number, Supplier<WordRents> made, int least, int most, long refusal, Asked call) {
        for (int v = least; v <= most; v += step(v, least, most)) {
            long got = call.of(made.get(), v);
            boolean taken = got >= 0 || got == Edge.NONE;
            DUE.isTrue(number + " " + v + " is taken, not " + got, taken);
        }
        int[] bad = {
            least - 1, most + 1, least - 2, most + 2, Edge.MIN, Edge.MIN + 1, Edge.MAX, Edge.MAX - 1,
            least - 256, most + 256, least - 65536, most + 65536, Edge.MIN + most, ~most
        };
        for (int v : bad) {
            if (v < least || v > most) {
                Edge.refused(DUE, number + " " + v, made, x -> call.of(x, v), refusal);
            }
        }
    }

    /** In a long span the ends, and some between, are enough. */
    private static int step(int v, int least, int most) {
        if (most - least <= 300 || v < least + 3 || v >= most - 3) {
            return 1;
        }
        return Math.min(37, most - 3 - v);
    }
}

import java.util.function.Supplier;
import java.util.function.ToLongFunction;

/**
 * "Calls that are refused answer, the first of these that fits: UNKNOWN, OUTSIDE, NO, STATE, FULL. They change nothing."
 * Each call is refused for each of its reasons alone, then for two and for three at once.
 */
public final class RefusalsTest {
    private static final Due DUE = new Due("RefusalsTest");
    private static final int UNKNOWN = Edge.UNKNOWN, OUTSIDE = Edge.OUTSIDE, STATE = Edge.STATE, FULL = Edge.FULL, NO = Edge.NO;
    private static final long LOST = -1000000000000000000L;

    /** PADS that hold no SENTENCE: empty, too short, too long, a wrong SORT, no letter, LEASES. */
    private static final String[] NO_SENTENCE = {
        "", "a", "ac", "acbd", "acbdha", "aab", "cca", "acd", "acbaa", "acbdd", "a!b", "Acb", "acb.", "0a-", "."
    };
    /** PADS that hold no LEASES: cut short, a wrong sign at each of the three places, a SENTENCE. */
    private static final String[] NO_LEASES = {"0", "0a", ".0", "..0a", "4g+", "0i+", "0g*", "0g+g", "acb", "0g.", "g+", "0a-1"};
    /** LEASES that can not be, for each reason, first or behind others. */
    private static final String[] CAN_NOT_BE = {"2a+", "1a-", "0g-", "1f^1f^", "3ev3ev", "2g+2g+", "..1c^", "0a-0av"};

    public static void main(String[] args) {
        unknown();
        unknownWhenThereAreNone();
        outside();
        noSentence();
        noSentenceOfStruckOut();
        noLeases();
        leasesThatCanNotBe();
        state();
        full();
        unknownAheadOfOutside();
        unknownAheadOfNo();
        outsideAheadOfNo();
        threeAtOnce();
        unknownAheadOfState();
        outsideAheadOfState();
        aheadOfFull();
        lostAndTheRefusal();
        DUE.end();
    }

    private static void refused(String call, Supplier<WordRents> made, ToLongFunction<WordRents> asked, long refusal) {
        Edge.refused(DUE, call, made, asked, refusal);
    }

    /** "there is no such WORD, FIRM": numbers that no WORD or FIRM ever has. */
    private static void unknown() {
        Supplier<WordRents> said = () -> Edge.rich("acb");
        Supplier<WordRents> leased = () -> Edge.rich("0a-");
        for (int bad : new int[] {-1, 8, Edge.MIN, Edge.MAX}) {
            refused("2: WORD " + bad, said, x -> x.word(bad, 0, 0, 0, 0), UNKNOWN);
            refused("3: WORD " + bad, said, x -> x.strikeOut(bad), UNKNOWN);
            refused("16: WORD " + bad, said, x -> x.state(bad, 0), UNKNOWN);
            refused("17: WORD " + bad, leased, x -> x.behind(bad, 0), UNKNOWN);
            refused("18: WORD " + bad, said, x -> x.after(bad, 0, 0), UNKNOWN);
            refused("30: WORD " + bad, said, x -> x.rests(bad, 1, 0), UNKNOWN);
            refused("30: other " + bad, said, x -> x.rests(0, bad, 0), UNKNOWN);
        }
        for (int bad : new int[] {-1, 5, Edge.MIN, Edge.MAX}) {
            refused("9: speaker " + bad, said, x -> x.price(bad), UNKNOWN);
            refused("10: speaker " + bad, said, x -> x.gets(bad, 0), UNKNOWN);
            refused("11: speaker " + bad, said, x -> x.nearly(bad, 0, 0), UNKNOWN);
            refused("12: speaker " + bad, said, x -> x.said(bad, 0, 0), UNKNOWN);
            refused("13: speaker " + bad, said, x -> x.misprints(bad, 0), UNKNOWN);
        }
        for (int bad : new int[] {-1, 4, 5, Edge.MIN, Edge.MAX}) {
            refused("10: FIRM " + bad, said, x -> x.gets(0, bad), UNKNOWN);
            refused("25: FIRM " + bad, said, x -> x.seen(bad, 0), UNKNOWN);
        }
        refused("30: both are one", said, x -> x.rests(0, 0, 0), UNKNOWN);
    }

    /** "there is no such WORD": a number that a WORD may have, but none has. */
    private static void unknownWhenThereAreNone() {
        for (int word = 0; word < 8; word++) {
            final int w = word;
            Supplier<WordRents> gone = () -> {
                WordRents x = Edge.rich(w == 0 ? "1b-" : "0a-");
                x.strikeOut(w);
                return x;
            };
            for (Supplier<WordRents> made : java.util.List.of((Supplier<WordRents>) WordRents::new, gone)) {
                refused("3: no " + w, made, x -> x.strikeOut(w), UNKNOWN);
                refused("16: no " + w, made, x -> x.state(w, 0), UNKNOWN);
                refused("17: no " + w, made, x -> x.behind(w, 0), UNKNOWN);
                refused("18: no " + w, made, x -> x.after(w, 0, 0), UNKNOWN);
                refused("30: no " + w, made, x -> x.rests(w, (w + 1) % 8, -1), UNKNOWN);
                refused("30: no other " + w, made, x -> x.rests((w + 1) % 8, w, -1), UNKNOWN);
                refused("30: both no " + w, made, x -> x.rests(w, w, -1), UNKNOWN);
                refused("34: no SORT of " + w, made, x -> x.told(10 + 10 * w), OUTSIDE);
                refused("34: no RHYME of " + w, made, x -> x.told(11 + 10 * w), OUTSIDE);
            }
        }
    }

    /** LimitsTest has the numbers one by one; here are those that hang on something else. */
    private static void outside() {
        for (int meaning = 0; meaning < 5; meaning++) {
            final int m = meaning;
            for (int v = 0; v < 10; v++) {
                final int far = v;
                refused("4: both are " + m + ", " + far, () -> Edge.rich("acb"), x -> x.far(m, m, far), OUTSIDE);
            }
        }
        refused("5: CAP is 0", WordRents::new, x -> x.set(0, 0), OUTSIDE);
        refused("5: DRIFT is as a CAP may be", WordRents::new, x -> x.set(1, 99), OUTSIDE);
        refused("11: a place behind 3 WORDS", () -> Edge.rich("acb"), x -> x.nearly(4, 0, 5), OUTSIDE);
        refused("11: the last place of 5, of 3 WORDS", () -> Edge.rich("acb"), x -> x.nearly(4, 36, 6), OUTSIDE);
        refused("27: no SIGHTS", WordRents::new, x -> x.spoke(0, 0), OUTSIDE);
        refused("27: one behind the last", () -> Edge.rich("acb"), x -> x.spoke(3, 0), OUTSIDE);
        Supplier<WordRents> forgotten = () -> {
            WordRents x = Edge.rich("acb");
            x.forget(1);
            return x;
        };
        refused("27: SIGHTS are forgotten", forgotten, x -> x.spoke(0, 0), OUTSIDE);
    }

    private static void noSentence() {
        for (String pad : NO_SENTENCE) {
            Supplier<WordRents> made = () -> Edge.rich(pad);
            for (int s = 0; s < 5; s++) {
                final int speaker = s;
                refused("9: '" + pad + "'", made, x -> x.price(speaker), NO);
                refused("10: '" + pad + "'", made, x -> x.gets(speaker, 3 - speaker % 4), NO);
            }
            for (int w = 0; w < 7; w++) {
                final int what = w;
                refused("11: '" + pad + "' " + what, made, x -> x.nearly(0, 36, what), NO);
            }
            for (int w = 0; w < 4; w++) {
                final int what = w;
                refused("13: '" + pad + "' " + what, made, x -> x.misprints(4, what), NO);
            }
            refused("21: '" + pad + "'", made, x -> x.list(), NO);
            refused("28: '" + pad + "'", made, x -> x.who(), NO);
            refused("29: '" + pad + "' upper", made, x -> x.let(5, 0, 0), LOST - 5);
            refused("29: '" + pad + "' lower", made, x -> x.let(5, 0, 1), LOST - 5);
            DUE.isTrue("29: '" + pad + "' is nothing to some of 3 WORDS", made.get().let(5, 1, 1) > 0);
            DUE.isTrue("29: '" + pad + "' is nothing to the LIST", made.get().let(5, 2, 1) > 0);
            DUE.isTrue("12: '" + pad + "' is nothing to what can be said", made.get().said(4, 999, 0) > 0);
        }
    }

    /** A FAULT by what has become of the WORDS, not of the PAD. */
    private static void noSentenceOfStruckOut() {
        for (int place = 0; place < 5; place++) {
            final int gone = "acbdh".charAt(place) - 'a';
            Supplier<WordRents> made = () -> {
                WordRents x = Edge.rich("acbdh");
                x.strikeOut(gone);
                return x;
            };
            refused("9: without " + gone, made, x -> x.price(4), NO);
            refused("10: without " + gone, made, x -> x.gets(4, 0), NO);
            refused("11: without " + gone, made, x -> x.nearly(4, 0, 6), NO);
            refused("13: without " + gone, made, x -> x.misprints(4, 0), NO);
            refused("21: without " + gone, made, x -> x.list(), NO);
            refused("28: without " + gone, made, x -> x.who(), NO);
            refused("29: without " + gone, made, x -> x.let(10, 0, 0), LOST - 5);
        }
    }

    private static void noLeases() {
        for (String pad : NO_LEASES) {
            Supplier<WordRents> made = () -> Edge.rich(pad);
            refused("14: '" + pad + "'", made, x -> x.judge(0), NO);
            refused("14: '" + pad + "' why", made, x -> x.judge(1), NO);
            refused("15: '" + pad + "'", made, x -> x.done(), NO);
            for (int w = 0; w < 3; w++) {
                final int what = w;
                refused("17: '" + pad + "' " + what, made, x -> x.behind(7, what), NO);
            }
        }
    }

    /** "or an ACT that can not be": what stood ahead of it is not DONE either. */
    private static void leasesThatCanNotBe() {
        for (String pad : CAN_NOT_BE) {
            Supplier<WordRents> made = () -> Edge.rich(pad);
            DUE.isTrue("14: '" + pad + "' is judged", made.get().judge(1) >= 1);
            refused("15: '" + pad + "'", made, x -> x.done(), NO);
            for (int w = 0; w < 3; w++) {
                final int what = w;
                refused("17: '" + pad + "' " + what, made, x -> x.behind(0, what), NO);
            }
        }
    }

    private static void state() {
        Supplier<WordRents> made = () -> Edge.rich("acb");
        refused("30: SORTS differ", made, x -> x.rests(0, 5, -1), STATE);
        refused("30: SORTS differ, the other way", made, x -> x.rests(5, 0, 0), STATE);
        refused("30: nobody's", made, x -> x.rests(0, 7, -1), STATE);
        refused("30: nobody's, the first", made, x -> x.rests(7, 0, -1), STATE);
        Supplier<WordRents> alike = () -> {
            WordRents x = Edge.rich("0h+");
            x.done();
            return x;
        };
        refused("30: HOLDERS are alike", alike, x -> x.rests(0, 7, -1), STATE);
        Supplier<WordRents> free = () -> {
            WordRents x = Edge.rich("0a-");
            x.done();
            return x;
        };
        refused("30: both nobody's", free, x -> x.rests(0, 7, -1), STATE);
        for (int i : new int[] {-1, 0, 1, 2, -2, Edge.MIN, Edge.MAX}) {
            refused("30: STATE whatever " + i, free, x -> x.rests(0, 7, i), STATE);
        }
        refused("33: the first was not kept", WordRents::new, x -> x.restore(0), STATE);
        refused("33: the second was not kept", WordRents::new, x -> x.restore(1), STATE);
    }

    /** The 61st sign, the 5th SENTENCE, the 7th SIGHT. */
    private static void full() {
        Supplier<WordRents> pad = () -> Edge.rich("0a-" + ".".repeat(57));
        for (int sign : new int[] {33, 46, 97, 126}) {
            refused("6: a 61st sign " + sign, pad, x -> x.say(sign), FULL);
        }
        refused("21: a fifth", () -> Edge.full("aca"), x -> x.list(), FULL);
        refused("21: a fifth of 5 WORDS", () -> Edge.full("acbdh"), x -> x.list(), FULL);
        refused("21: one that is told already", () -> Edge.full("bcb"), x -> x.list(), FULL);
        for (int firm = 0; firm < 4; firm++) {
            final int f = firm;
            refused("25: a seventh of " + f, () -> Edge.full("aca"), x -> x.seen(f, 255), FULL);
            refused("25: a seventh, of nothing, of " + f, () -> Edge.full("aca"), x -> x.seen(f, 0), FULL);
        }
    }

    private static void unknownAheadOfOutside() {
        Supplier<WordRents> said = () -> Edge.rich("acb");
        Supplier<WordRents> leased = () -> Edge.rich("0a-");
        for (int bad : new int[] {-1, Edge.MIN, Edge.MAX}) {
            refused("2: WORD and SORT", said, x -> x.word(8, bad, 0, 0, 0), UNKNOWN);
            refused("2: WORD and MEANING", said, x -> x.word(8, 0, bad, 0, 0), UNKNOWN);
            refused("2: WORD and RHYME", said, x -> x.word(-1, 0, 0, bad, 0), UNKNOWN);
            refused("2: WORD and RENT", said, x -> x.word(-1, 0, 0, 0, bad), UNKNOWN);
            refused("11: speaker and SLACK", said, x -> x.nearly(5, bad, 0), UNKNOWN);
            refused("11: speaker and what", said, x -> x.nearly(-1, 0, bad), UNKNOWN);
            refused("12: speaker and PENCE", said, x -> x.said(5, bad, 0), UNKNOWN);
            refused("12: speaker and what", said, x -> x.said(-1, 0, bad), UNKNOWN);
            refused("13: speaker and what", said, x -> x.misprints(5, bad), UNKNOWN);
            refused("16: WORD and what", said, x -> x.state(8, bad), UNKNOWN);
            refused("17: WORD and what", leased, x -> x.behind(8, bad), UNKNOWN);
            refused("18: WORD and DAYS", said, x -> x.after(-1, bad, 0), UNKNOWN);
            refused("18: WORD and what", said, x -> x.after(8, 0, bad), UNKNOWN);
            refused("25: FIRM and set", said, x -> x.seen(4, bad), UNKNOWN);
        }
        refused("11: speaker, and a place behind 3 WORDS", said, x -> x.nearly(5, 0, 6), UNKNOWN);
        refused("16: no such WORD, on a new object", WordRents::new, x -> x.state(0, 3), UNKNOWN);
        refused("17: no such WORD, on a new object", WordRents::new, x -> x.behind(0, 3), UNKNOWN);
        refused("18: no such WORD, on a new object", WordRents::new, x -> x.after(0, 100, 3), UNKNOWN);
    }

    private static void unknownAheadOfNo() {
        for (String pad : NO_SENTENCE) {
            Supplier<WordRents> made = () -> Edge.rich(pad);
            refused("9: speaker, '" + pad + "'", made, x -> x.price(5), UNKNOWN);
            refused("10: speaker, '" + pad + "'", made, x -> x.gets(5, 0), UNKNOWN);
            refused("10: FIRM, '" + pad + "'", made, x -> x.gets(0, 4), UNKNOWN);
            refused("10: both, '" + pad + "'", made, x -> x.gets(-1, -1), UNKNOWN);
            refused("11: speaker, '" + pad + "'", made, x -> x.nearly(5, 0, 0), UNKNOWN);
            refused("13: speaker, '" + pad + "'", made, x -> x.misprints(5, 0), UNKNOWN);
        }
        for (String pad : NO_LEASES) {
            refused("17: WORD, '" + pad + "'", () -> Edge.rich(pad), x -> x.behind(8, 0), UNKNOWN);
        }
        for (String pad : CAN_NOT_BE) {
            refused("17: WORD, '" + pad + "'", () -> Edge.rich(pad), x -> x.behind(-1, 0), UNKNOWN);
        }
    }

    private static void outsideAheadOfNo() {
        for (String pad : NO_SENTENCE) {
            Supplier<WordRents> made = () -> Edge.rich(pad);
            refused("11: SLACK below, '" + pad + "'", made, x -> x.nearly(4, -1, 0), OUTSIDE);
            refused("11: SLACK above, '" + pad + "'", made, x -> x.nearly(4, 37, 0), OUTSIDE);
            refused("11: what below, '" + pad + "'", made, x -> x.nearly(4, 0, -1), OUTSIDE);
            refused("11: what above, '" + pad + "'", made, x -> x.nearly(4, 0, 7), OUTSIDE);
            refused("13: what below, '" + pad + "'", made, x -> x.misprints(4, -1), OUTSIDE);
            refused("13: what above, '" + pad + "'", made, x -> x.misprints(4, 4), OUTSIDE);
            refused("29: t, '" + pad + "'", made, x -> x.let(11, 0, 0), LOST - 2);
            refused("29: t below, '" + pad + "'", made, x -> x.let(-1, 0, 0), LOST - 2);
            refused("29: part, '" + pad + "'", made, x -> x.let(5, 0, 2), LOST - 2);
            refused("29: part below, '" + pad + "'", made, x -> x.let(5, 0, -1), LOST - 2);
        }
        for (String pad : NO_LEASES) {
            refused("14: below, '" + pad + "'", () -> Edge.rich(pad), x -> x.judge(-1), OUTSIDE);
            refused("14: above, '" + pad + "'", () -> Edge.rich(pad), x -> x.judge(2), OUTSIDE);
            refused("17: what, '" + pad + "'", () -> Edge.rich(pad), x -> x.behind(0, 3), OUTSIDE);
        }
        for (String pad : CAN_NOT_BE) {
            refused("17: what, '" + pad + "'", () -> Edge.rich(pad), x -> x.behind(0, -1), OUTSIDE);
        }
    }

    private static void threeAtOnce() {
        Supplier<WordRents> said = () -> Edge.rich("ac");
        refused("11: speaker, SLACK, a FAULT", said, x -> x.nearly(5, 37, 0), UNKNOWN);
        refused("11: speaker, what, a FAULT", said, x -> x.nearly(-1, 0, 7), UNKNOWN);
        refused("13: speaker, what, a FAULT", said, x -> x.misprints(5, 4), UNKNOWN);
        refused("17: WORD, what, a FAULT", said, x -> x.behind(8, 3), UNKNOWN);
        refused("17: WORD, what, can not be", () -> Edge.rich("2a+"), x -> x.behind(8, 3), UNKNOWN);
        refused("25: FIRM, set, full", () -> Edge.full("ac"), x -> x.seen(4, 256), UNKNOWN);
    }

    private static void unknownAheadOfState() {
        Supplier<WordRents> made = () -> Edge.rich("acb");
        refused("30: one, and nobody's", made, x -> x.rests(7, 7, -1), UNKNOWN);
        refused("30: no WORD, and the other nobody's", made, x -> x.rests(8, 7, -1), UNKNOWN);
        refused("30: no other, and nobody's", made, x -> x.rests(7, -1, -1), UNKNOWN);
        Supplier<WordRents> gone = () -> {
            WordRents x = Edge.rich("acb");
            x.strikeOut(1);
            return x;
        };
        refused("30: what was its rival is no more", gone, x -> x.rests(0, 1, -1), UNKNOWN);
        refused("30: nor the other way", gone, x -> x.rests(1, 0, -1), UNKNOWN);
    }

    private static void outsideAheadOfState() {
        for (int bad : new int[] {-1, 2, Edge.MIN, Edge.MAX}) {
            refused("33: " + bad + " was never kept", WordRents::new, x -> x.restore(bad), OUTSIDE);
        }
    }

    private static void aheadOfFull() {
        Supplier<WordRents> pad = () -> Edge.rich(".".repeat(60));
        refused("6: OUTSIDE below, and a full PAD", pad, x -> x.say(32), OUTSIDE);
        refused("6: OUTSIDE above, and a full PAD", pad, x -> x.say(127), OUTSIDE);
        for (String text : NO_SENTENCE) {
            refused("21: NO '" + text + "', and a full LIST", () -> Edge.full(text), x -> x.list(), NO);
        }
        refused("25: UNKNOWN, and six SIGHTS", () -> Edge.full(""), x -> x.seen(4, 0), UNKNOWN);
        refused("25: OUTSIDE, and six SIGHTS", () -> Edge.full(""), x -> x.seen(3, 256), OUTSIDE);
        refused("25: OUTSIDE below, and six SIGHTS", () -> Edge.full(""), x -> x.seen(3, -1), OUTSIDE);
    }

    /** "refused with LOST and the refusal": the two as one sum, for both parts. */
    private static void lostAndTheRefusal() {
        DUE.is("29: LOST", WordRents.LOST, LOST);
        for (int p = 0; p < 2; p++) {
            final int part = p;
            refused("29: OUTSIDE, " + part, () -> Edge.rich("acb"), x -> x.let(11, 0, part), -1000000000000000002L);
            refused("29: NO, " + part, () -> Edge.rich("ac"), x -> x.let(5, 0, part), -1000000000000000005L);
        }
    }
}

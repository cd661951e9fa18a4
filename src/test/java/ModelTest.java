import java.util.Random;

/**
 * Drawn runs of 512 calls, all that the document promises of an object (seeds are told, so each run is the same each time):
 * WordRents answers as the Model does, up to the last call.
 */
public final class ModelTest {
    private static final int RUNS = 1600, CALLS = 512;

    private final Due due;
    private final Random draw;
    private final WordRents x = new WordRents();
    private final Model m = new Model();
    private final String run;
    private int calls;

    /** The object has answered its last call: the run ends, wherever it stands. */
    private static final class LastCall extends RuntimeException {
        private static final long serialVersionUID = 1L;
    }

    private ModelTest(Due due, int seed) {
        this.due = due;
        draw = new Random(seed);
        run = "run " + seed + ": ";
    }

    public static void main(String[] args) {
        Due due = new Due("ModelTest");
        for (int seed = 0; seed < RUNS; seed++) {
            new ModelTest(due, seed).toTheLastCall();
        }
        due.end();
    }

    private void toTheLastCall() {
        try {
            drawCalls();
        } catch (LastCall end) {
            due.is(run + "as many calls as are promised", calls, CALLS);
        }
    }

    private void drawCalls() {
        int rich = draw.nextInt(3);
        for (int w = 0; w < 8; w++) {
            if (rich > 0 || draw.nextBoolean()) {
                word(w);
            }
        }
        if (rich > 1) {
            say(firstLeases());
            due("done()", x.done(), m.done());
        }
        while (calls < CALLS) {
            one();
        }
    }

    /** A number of a span, or now and then one that is near it but outside, or far off. */
    private int in(int least, int most) {
        int luck = draw.nextInt(60);
        if (luck == 0) {
            return least - 1;
        }
        if (luck == 1) {
            return most + 1;
        }
        if (luck == 2) {
            return new int[] {Integer.MIN_VALUE, Integer.MAX_VALUE, -100, 1000000}[draw.nextInt(4)];
        }
        return least + draw.nextInt(most - least + 1);
    }

    private void due(String call, long got, long want) {
        due.is(run + call, got, want);
        calls++;
        if (calls == CALLS) {
            throw new LastCall();
        }
    }

    private void word(int w) {
        int sort = in(0, 2), meaning = in(0, 4), rhyme = in(0, 3);
        int rent = draw.nextInt(3) == 0 ? in(0, 3) : draw.nextInt(6) == 0 ? in(97, 99) : in(0, 99);
        due("word(" + w + "," + sort + "," + meaning + "," + rhyme + "," + rent + ")",
                x.word(w, sort, meaning, rhyme, rent), m.word(w, sort, meaning, rhyme, rent));
    }

    private void say(String text) {
        due("wipe()", x.wipe(), m.wipe());
        for (int i = 0; i < text.length(); i++) {
            due("say(" + (int) text.charAt(i) + ")", x.say(text.charAt(i)), m.say(text.charAt(i)));
        }
    }

    private char letterOf(int sort) {
        for (int i = 0; i < 30; i++) {
            int w = draw.nextInt(8);
            if (m.told(10 * (1 + w)) == sort) {
                return (char) ('a' + w);
            }
        }
        return (char) ('a' + draw.nextInt(9));
    }

    private String sentence() {
        StringBuilder text = new StringBuilder();
        int length = draw.nextInt(8) == 0 ? draw.nextInt(7) : draw.nextBoolean() ? 3 : 5;
        for (int i = 0; i < length; i++) {
            text.append(draw.nextInt(25) == 0 ? (char) (33 + draw.nextInt(94)) : letterOf(i == 1 ? 1 : i == 3 ? 2 : 0));
        }
        return text.toString();
    }

    /** About half of the WORDS are held from the first on, so that a run need not be long to have something to pay. */
    private String firstLeases() {
        StringBuilder text = new StringBuilder();
        for (int w = 0; w < 8; w++) {
            if (m.state(w, 1) == 4 && draw.nextBoolean()) {
                text.append(draw.nextInt(4)).append((char) ('a' + w)).append('+');
            }
        }
        return text.toString();
    }

    /** Mostly ACTS that can be, by who holds what. */
    private String leases() {
        StringBuilder text = new StringBuilder();
        int acts = draw.nextInt(6);
        for (int i = 0; i < acts; i++) {
            int w = draw.nextInt(8);
            int holder = m.state(w, 1);
            if (draw.nextInt(3) == 0) {
                text.append('.');
            } else if (draw.nextInt(12) == 0) {
                text.append(draw.nextInt(4)).append((char) ('a' + w)).append("+-^v".charAt(draw.nextInt(4)));
            } else if (holder == 4) {
                text.append(draw.nextInt(4)).append((char) ('a' + w)).append('+');
            } else if (holder >= 0) {
                text.append(holder).append((char) ('a' + w)).append("-^v".charAt(draw.nextInt(3)));
            }
        }
        if (draw.nextInt(12) == 0) {
            text.insert(draw.nextInt(text.length() + 1), (char) (33 + draw.nextInt(94)));
        }
        return text.toString();
    }

    private void one() {
        int kind = draw.nextInt(100);
        if (kind < 40) {
            changes(kind % 20);
        } else if (kind < 60) {
            sentenceAsked();
        } else if (kind < 80) {
            leasesAsked();
        } else {
            rest(kind - 80);
        }
    }

    private void changes(int kind) {
        int a = in(0, 4), b = in(0, 4), c = in(0, 9);
        switch (kind) {
            case 0 -> word(in(0, 7));
            case 1 -> {
                if (draw.nextInt(5) == 0) {
                    int w = in(0, 7);
                    due("strikeOut(" + w + ")", x.strikeOut(w), m.strikeOut(w));
                }
            }
            case 2 -> due("far(" + a + "," + b + "," + c + ")", x.far(a, b, c), m.far(a, b, c));
            case 3 -> {
                int v = in(1, 99);
                due("set(0," + v + ")", x.set(0, v), m.set(0, v));
            }
            case 4 -> {
                int which = in(0, 1), v = in(1, 9);
                due("set(" + which + "," + v + ")", x.set(which, v), m.set(which, v));
            }
            case 5 -> {
                int sign = in(33, 126);
                due("say(" + sign + ")", x.say(sign), m.say(sign));
            }
            case 6 -> {
                say(sentence());
                due("list()", x.list(), m.list());
            }
            case 7 -> {
                int firm = in(0, 3), set = draw.nextInt(4) == 0 ? in(0, 255) : 1 << draw.nextInt(8) | 1 << draw.nextInt(8);
                due("seen(" + firm + "," + set + ")", x.seen(firm, set), m.seen(firm, set));
            }
            case 8 -> {
                int which = in(0, 5);
                due("forget(" + which + ")", x.forget(which), m.forget(which));
            }
            case 9 -> {
                int n = in(0, 1);
                due("image(" + n + ")", x.image(n), m.image(n));
            }
            case 10 -> {
                int n = in(0, 1);
                if (draw.nextInt(4) == 0) {
                    due("restore(" + n + ")", x.restore(n), m.restore(n));
                }
            }
            default -> {
                say(leases());
                due("done()", x.done(), m.done());
            }
        }
    }

    private void sentenceAsked() {
        if (draw.nextInt(6) != 0) {
            say(sentence());
        }
        int speaker = in(0, 4), firm = in(0, 3), slack = in(0, draw.nextBoolean() ? 4 : 36), t = in(0, 10);
        due("fault(0)", x.fault(0), m.fault(0));
        due("price(" + speaker + ")", x.price(speaker), m.price(speaker));
        due("gets(" + speaker + "," + firm + ")", x.gets(speaker, firm), m.gets(speaker, firm));
        for (int what = -1; what < 8; what++) {
            due("nearly(" + speaker + "," + slack + "," + what + ")", x.nearly(speaker, slack, what), m.nearly(speaker, slack, what));
        }
        for (int what = -1; what < 5; what++) {
            due("misprints(" + speaker + "," + what + ")", x.misprints(speaker, what), m.misprints(speaker, what));
        }
        due("who()", x.who(), m.who());
        for (int part = -1; part < 3; part++) {
            due("let(" + t + ",0," + part + ")", x.let(t, 0, part), m.let(t, 0, part));
        }
    }

    private void leasesAsked() {
        if (draw.nextInt(6) != 0) {
            say(leases());
        }
        due("fault(1)", x.fault(1), m.fault(1));
        for (int what = -1; what < 3; what++) {
            due("judge(" + what + ")", x.judge(what), m.judge(what));
        }
        int w = in(0, 7), days = in(0, draw.nextBoolean() ? 9 : 99);
        for (int what = -1; what < 4; what++) {
            due("behind(" + w + "," + what + ")", x.behind(w, what), m.behind(w, what));
            due("state(" + w + "," + what + ")", x.state(w, what), m.state(w, what));
            due("after(" + w + "," + days + "," + what + ")", x.after(w, days, what), m.after(w, days, what));
        }
    }

    private void rest(int kind) {
        int speaker = in(0, 4), pence = in(0, draw.nextBoolean() ? 40 : 999), t = in(0, 10), set = in(0, 255);
        int sight = in(0, 5), w = in(0, 7), o = in(0, 7), i = in(-3, 3), seed = in(0, 9999), days = in(1, 99);
        switch (kind) {
            case 0, 1, 2 -> {
                for (int what = -1; what < 8; what++) {
                    due("said(" + speaker + "," + pence + "," + what + ")", x.said(speaker, pence, what), m.said(speaker, pence, what));
                }
            }
            case 3, 4, 5 -> {
                due("settles()", x.settles(), m.settles());
                due("round()", x.round(), m.round());
            }
            case 6, 7 -> {
                for (int what = -1; what < 3; what++) {
                    due("held(" + what + ")", x.held(what), m.held(what));
                }
            }
            case 8, 9 -> {
                due("strike(" + set + ")", x.strike(set), m.strike(set));
                due("worst()", x.worst(), m.worst());
            }
            case 10, 11 -> {
                for (int what = -1; what < 5; what++) {
                    due("spoke(" + sight + "," + what + ")", x.spoke(sight, what), m.spoke(sight, what));
                }
            }
            case 12, 13 -> {
                for (int which = -1; which < 4; which++) {
                    due("let(" + t + "," + which + ",0)", x.let(t, which, 0), m.let(t, which, 0));
                    due("let(" + t + "," + which + ",1)", x.let(t, which, 1), m.let(t, which, 1));
                }
            }
            case 14, 15, 16 -> due("rests(" + w + "," + o + "," + i + ")", x.rests(w, o, i), m.rests(w, o, i));
            case 17, 18 -> {
                for (int what = -1; what < 4; what++) {
                    due("year(" + seed + "," + days + "," + what + ")", x.year(seed, days, what), m.year(seed, days, what));
                }
            }
            default -> {
                for (int n = 0; n < 12; n++) {
                    int what = n < 3 ? in(0, 6) : n < 7 ? 10 * in(1, 8) + in(0, 1) : 100 + 10 * in(0, 4) + in(0, 4);
                    due("told(" + what + ")", x.told(what), m.told(what));
                }
            }
        }
    }
}

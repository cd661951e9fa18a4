/** What the project's own tests share: due answers are counted, wrong ones are told, and texts are said sign by sign. */
final class Due {
    private final String test;
    private int asked;
    private int wrong;

    Due(String test) {
        this.test = test;
    }

    void is(String what, long got, long want) {
        asked++;
        if (got != want) {
            wrong++;
            System.out.println(test + ": " + what + " answered " + got + ", due is " + want);
        }
    }

    void isTrue(String what, boolean holds) {
        is(what, holds ? 1 : 0, 1);
    }

    /** Empties the PAD and says a text. */
    static void say(WordRents x, String text) {
        x.wipe();
        for (int i = 0; i < text.length(); i++) {
            x.say(text.charAt(i));
        }
    }

    /** LEASES that must be DONE, for the test goes on from there. */
    void lease(WordRents x, String text) {
        say(x, text);
        isTrue("done of " + text, x.done() >= 0);
    }

    /** Ends the test: with exit code 1, if an answer was not as due. */
    void end() {
        System.out.println(wrong == 0 ? "all " + asked + " answers are as due" : wrong + " of " + asked + " answers are not as due");
        if (wrong != 0) {
            System.exit(1);
        }
    }
}

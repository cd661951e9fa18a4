/** The run of calls that README.md shows, with the answers that it tells. */
public final class ReadmeTest {
    public static void main(String[] args) {
        Due due = new Due("ReadmeTest");
        WordRents x = new WordRents();
        due.is("word a", x.word(0, 0, 0, 0, 10), 1);
        due.is("word b", x.word(1, 1, 2, 0, 8), 2);
        Due.say(x, "0a+1b+.");
        due.is("judge", x.judge(0), WordRents.NONE);
        due.is("behind", x.behind(0, 0), 11);
        due.is("done", x.done(), 3);
        Due.say(x, "aba");
        due.is("fault", x.fault(0), WordRents.NONE);
        due.is("price", x.price(4), 15);
        due.is("gets", x.gets(4, 1), 4);
        due.is("let, upper", x.let(5, 0, 0), 1);
        due.is("let, lower", x.let(5, 0, 1), 4);
        due.is("list", x.list(), 1);
        due.is("held", x.held(1), 1);
        due.end();
    }
}

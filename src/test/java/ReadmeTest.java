/** The examples of README.md, with the answers that stand there. */
public final class ReadmeTest {
    private ReadmeTest() {
    }

    public static void main(String[] args) {
        Check.about("README.md: ");
        TicketCheck x = new TicketCheck();
        calls(x);
        texts(x);
        Check.end("ReadmeTest");
    }

    private static void calls(TicketCheck x) {
        int ticket = x.buy(0, TicketCheck.SINGLE, 3);
        x.ride(0, 0, 4, ticket);
        Check.due("inspect", 0, x.inspect(0));
        x.waitFor(8);
        x.ride(0, 4, 7, ticket);
        Check.due("inspect in another zone", 3, x.inspect(0));
        Check.due("amountDue", 6000, x.amountDue(0));
        x.undo();
        Check.due("the inspection is taken back", 0, x.caseCount());
    }

    private static void texts(TicketCheck x) {
        feed(x, "line 0 0 1; passenger eve 9000; ride eve 0 2; inspect eve;");
        Check.due("load", 1, x.load());
        Check.due("writeCases", 8, x.writeCases());
        Check.due("the output", "eve:6000", Check.output(x));
        feed(x, "wait 4; ride eve 2 2;");
        Check.due("play", TicketCheck.NONE, x.play());
        Check.due("errorCode", 2, x.errorCode());
        Check.due("errorOffset", 19, x.errorOffset());
        Check.due("clock", 0, x.clock());
    }

    private static void feed(TicketCheck x, String text) {
        x.truncateInput(0);
        for (int i = 0; i < text.length(); i += 20) {
            x.append(word(text, i), word(text, i + 4), word(text, i + 8), word(text, i + 12), word(text, i + 16));
        }
        x.truncateInput(text.length());
    }

    private static int word(String text, int start) {
        int word = 0;
        for (int i = start; i < start + 4; i++) {
            word = word << 8 | (i < text.length() ? text.charAt(i) : ' ');
        }
        return word;
    }
}

/** The examples of README.md answer what it says there. */
final class ReadmeTest {
    public static void main(String[] args) {
        firstLine();
        twoSessions();
        Check.end();
    }

    private static void firstLine() {
        MailSessions mail = new MailSessions();
        Check.same("type", true, mail.type(0, 'a' | ' ' << 8 | 'N' << 16 | 'O' << 24));
        Check.same("type", true, mail.type(0, 'O' | 'P' << 8));
        Check.same("enter", 0, mail.enter(0));
        StringBuilder printed = new StringBuilder();
        for (int i = 0; i < mail.replied(0); i++) {
            printed.append(mail.reply(0, i));
        }
        Check.same("reply", "a OK", printed.toString());
    }

    private static void twoSessions() {
        Talk x = new Talk();
        Check.same("a", "a OK", x.ask(0, "a APPEND a (F) hello"));
        Check.same("b", "* 1 EXISTS|* 1 UIDVALIDITY|* 2 UIDNEXT|b OK", x.ask(0, "b SELECT a"));
        x.then("connect 1");
        Check.same("c", "* 1 EXISTS|* 1 UIDVALIDITY|* 2 UIDNEXT|c OK", x.ask(1, "c SELECT a"));
        Check.same("d", "* 1 FETCH (FD)|d OK", x.ask(1, "d STORE 1 +(D)"));
        Check.same("e", "* 1 EXPUNGE|e OK", x.ask(1, "e EXPUNGE"));
        Check.same("f", "f OK", x.ask(0, "f FETCH 1 TEXT"));
        Check.same("g", "* 1 EXPUNGE|g OK", x.ask(0, "g NOOP"));
        Check.same("h", "h NO", x.ask(0, "h FETCH 1 TEXT"));
    }
}

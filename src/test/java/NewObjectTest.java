/** Promise 1. */
final class NewObjectTest {
    public static void main(String[] args) {
        Talk x = new Talk();
        Check.same("messages of a", 0, x.mail.messages(0));
        for (int mailbox = 1; mailbox < 4; mailbox++) {
            Check.same("messages of mailbox " + mailbox, -1, x.mail.messages(mailbox));
        }
        for (int session = 0; session < 3; session++) {
            Check.same("replied", 0, x.mail.replied(session));
            Check.same("view", -1, x.mail.view(session));
        }
        Check.same("session 0 is connected", "IllegalStateException", Check.thrown(() -> x.mail.connect(0)));
        Check.same("session 1 is not", "IllegalStateException", Check.thrown(() -> x.mail.enter(1)));
        Check.same("session 2 is not", "IllegalStateException", Check.thrown(() -> x.mail.enter(2)));
        Check.same("the line is empty", "IllegalArgumentException", Check.thrown(() -> x.mail.enter(0)));
        Check.same("select", "* 0 EXISTS|* 1 UIDVALIDITY|* 1 UIDNEXT|t OK", x.ask(0, "t SELECT a"));

        Talk other = new Talk();
        other.enter(0, "a CREATE b");
        Check.same("an object of its own", -1, new Talk().mail.messages(1));
        Check.same("validity", "* 0 EXISTS|* 2 UIDVALIDITY|* 1 UIDNEXT|a OK", other.ask(0, "a SELECT b"));
        Check.end();
    }
}

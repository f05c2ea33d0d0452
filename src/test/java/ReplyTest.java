/** Promises 5 and 6. */
final class ReplyTest {
    public static void main(String[] args) {
        Talk x = new Talk();
        int[] nobody = {-1, 3, Integer.MAX_VALUE, Integer.MIN_VALUE};
        for (int session : nobody) {
            Check.same("replied " + session, "IndexOutOfBoundsException",
                    Check.thrown(() -> x.mail.replied(session)));
            Check.same("reply " + session, "IndexOutOfBoundsException",
                    Check.thrown(() -> x.mail.reply(session, 0)));
        }
        Check.same("no reply yet", "IndexOutOfBoundsException", Check.thrown(() -> x.mail.reply(0, 0)));
        Check.same("not connected, no reply", 0, x.mail.replied(1));
        x.enter(0, "a1 EXAMINE a");
        String whole = "* 0 EXISTS\n* 1 UIDVALIDITY\n* 1 UIDNEXT\na1 OK";
        Check.same("replied", whole.length(), x.mail.replied(0));
        Check.same("reply", whole, x.reply(0));
        int[] outside = {-1, whole.length(), Integer.MAX_VALUE, Integer.MIN_VALUE};
        for (int i : outside) {
            Check.same("reply 0, " + i, "IndexOutOfBoundsException", Check.thrown(() -> x.mail.reply(0, i)));
        }
        Check.same("no command", "IllegalArgumentException", x.enter(0, "NOOP"));
        Check.same("reply as it was", whole, x.reply(0));
        x.enter(0, "b NOOP");
        Check.same("the latest", "b OK", x.reply(0));
        Check.same("behind a shorter one", "IndexOutOfBoundsException", Check.thrown(() -> x.mail.reply(0, 4)));
        Check.same("of its own session", 0, x.mail.replied(2));
        x.enter(0, "c LOGOUT");
        Check.same("after logout", "c OK", x.reply(0));
        Check.end();
    }
}

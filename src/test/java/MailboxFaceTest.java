/** Promises 7, 8 and 9. */
final class MailboxFaceTest {
    public static void main(String[] args) {
        Talk x = new Talk();
        int[] nothing = {-1, 4, 3, Integer.MAX_VALUE, Integer.MIN_VALUE};
        for (int n : nothing) {
            Check.same("view " + n, -1, x.mail.view(n));
            Check.same("messages " + n, -1, x.mail.messages(n));
            Check.same("message of " + n, "NoSuchElementException", Check.thrown(() -> x.mail.message(n, 0, 0)));
        }
        Check.same("no message", "NoSuchElementException", Check.thrown(() -> x.mail.message(0, 0, 0)));
        x.enter(0, "a APPEND a (S) a");
        x.enter(0, "a APPEND a (A) ab");
        x.enter(0, "a APPEND a (F) abc");
        x.enter(0, "a APPEND a (D) abcd");
        x.enter(0, "a APPEND a (DFAS) abcde");
        x.enter(0, "a APPEND a (DSSD) abcdef");
        Check.same("all", "1:1:1 2:2:2 3:4:3 4:8:4 5:15:5 6:9:6", x.listed(0));
        int[] outside = {-1, 6, 10, Integer.MAX_VALUE, Integer.MIN_VALUE};
        for (int i : outside) {
            Check.same("message " + i, "NoSuchElementException", Check.thrown(() -> x.mail.message(0, i, 0)));
        }
        int[] whats = {-1, 3, Integer.MAX_VALUE, Integer.MIN_VALUE};
        for (int what : whats) {
            Check.same("what " + what, "NoSuchElementException", Check.thrown(() -> x.mail.message(0, 0, what)));
        }
        Check.same("view before", -1, x.mail.view(0));
        x.enter(0, "a SELECT a");
        Check.same("view", 6, x.mail.view(0));
        x.mail.connect(1);
        Check.same("connected, none selected", -1, x.mail.view(1));
        x.enter(1, "a SELECT a");
        x.enter(1, "a EXPUNGE");
        Check.same("taken away", "1:1:1 2:2:2 3:4:3", x.listed(0));
        Check.same("gone, but in the view", 6, x.mail.view(0));
        Check.same("out of its own view", 3, x.mail.view(1));
        x.enter(0, "a CLOSE");
        Check.same("closed", -1, x.mail.view(0));
        x.enter(1, "a CLOSE");
        x.enter(1, "a DELETE a");
        Check.same("deleted", -1, x.mail.messages(0));
        Check.same("deleted", "NoSuchElementException", Check.thrown(() -> x.mail.message(0, 0, 0)));
        x.enter(1, "a CREATE a");
        Check.same("empty", 0, x.mail.messages(0));
        Check.same("empty", "NoSuchElementException", Check.thrown(() -> x.mail.message(0, 0, 0)));
        x.enter(1, "a APPEND a () z");
        Check.same("NEXT is 1 again", "1:0:1", x.listed(0));
        Check.end();
    }
}

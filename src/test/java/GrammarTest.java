/** Promise 3: which lines are commands. */
final class GrammarTest {
    private static final String[] NONE = {
        "", " ", "a", "a ", "abc NOOP", "A NOOP", "* NOOP", " NOOP", "NOOP", "a NOOP ", "a  NOOP", "a noop", "a NOO",
        "a NOOPS", "a NOOP a", "a-NOOP", "a UID NOOP", "a UID CLOSE", "a UID EXPUNGE", "a UID LOGOUT",
        "a UID CREATE b", "a UID DELETE b", "a UID SELECT a", "a UID EXAMINE a", "a UID APPEND a () x", "a UID",
        "a UID ", "a UID UID FETCH 1 UID", "a UID  FETCH 1 UID", "a CLOSE a", "a CREATE", "a CREATE ", "a CREATE e",
        "a CREATE A", "a CREATE ab", "a CREATE  b", "a CREATE b ", "a CREATE `", "a DELETE", "a SELECT", "a EXAMINE 1",
        "a APPEND a", "a APPEND a (S)", "a APPEND a (S) ", "a APPEND a S x", "a APPEND a (S x", "a APPEND a S) x",
        "a APPEND a (X) x", "a APPEND a (s) x", "a APPEND a (S A) x", "a APPEND a (S)x", "a APPEND a(S) x",
        "a APPEND a ( ) x", "a APPEND a () abcdefg", "a APPEND a () A", "a APPEND a () 1", "a APPEND a () a b",
        "a APPEND e () x", "a APPEND a +(S) x", "a STORE 1", "a STORE 1 ", "a STORE (S)", "a STORE 1 S",
        "a STORE 1 +(S", "a STORE 1 + (S)", "a STORE 1 +-(S)", "a STORE 1 *(S)", "a STORE 1 (S) ", "a STORE 1(S)",
        "a STORE ALL (S)", "a FETCH 1", "a FETCH 1 ", "a FETCH 1 FLAG", "a FETCH 1 TEXTS", "a FETCH 1 flags",
        "a FETCH UID", "a FETCH 1 UID ", "a FETCH 1234 UID", "a FETCH 0001 UID", "a FETCH 1, UID", "a FETCH ,1 UID",
        "a FETCH 1,,2 UID", "a FETCH 1: UID", "a FETCH :1 UID", "a FETCH 1::2 UID", "a FETCH 1:2:3 UID",
        "a FETCH ** UID", "a FETCH *1 UID", "a FETCH 1* UID", "a FETCH -1 UID", "a FETCH +1 UID", "a FETCH 1, 2 UID",
        "a FETCH 1;2 UID", "a FETCH 1/2 UID", "a FETCH  UID", "a COPY 1", "a COPY 1 ", "a COPY 1 e", "a COPY a",
        "a COPY 1 a ", "a COPY 1  a", "a SEARCH", "a SEARCH ", "a SEARCH  ALL", "a SEARCH ALL ", "a SEARCH ALL  ALL",
        "a SEARCH all", "a SEARCH ALLALL", "a SEARCH ALL,1", "a SEARCH HAS", "a SEARCH HAS ", "a SEARCH HAS X",
        "a SEARCH HAS SA", "a SEARCH HAS (S)", "a SEARCH TEXT", "a SEARCH TEXT ", "a SEARCH TEXT A",
        "a SEARCH TEXT abcdefg", "a SEARCH TEXT a1", "a SEARCH UID", "a SEARCH UID ", "a SEARCH UID ALL",
        "a SEARCH NOT", "a SEARCH NOT ", "a SEARCH NOTALL", "a SEARCH OR ALL", "a SEARCH OR ALL ", "a SEARCH OR",
        "a SEARCH OR 1,2", "a SEARCH ()", "a SEARCH (", "a SEARCH )", "a SEARCH (ALL", "a SEARCH ALL)",
        "a SEARCH (ALL))", "a SEARCH ((ALL)", "a SEARCH ( ALL)", "a SEARCH (ALL )", "a SEARCH (ALL)(ALL)",
        "a SEARCH (ALL)ALL", "a SEARCH 1234", "a SEARCH 1,2:3,", "a SEARCH (((((((((ALL)))))))))",
        "a SEARCH NOT NOT NOT NOT NOT NOT NOT NOT NOT 1", "a SEARCH OR 1 OR 1 OR 1 OR 1 OR 1 OR 1 (((1)))",
        "a SEARCH (NOT (NOT (NOT (NOT (NOT ALL)))))", "a SEARCH ((((((((1 (2)))))))))", "a GREET", "a LOGIN a",
        "a STORE", "a STORE ", "a UID STORE 1 (Z)", "a UID SEARCH", "a UID COPY * *",
    };

    /** Commands for a view of three places in mailbox a, b being there. */
    private static final String[] SOME = {
        "a NOOP", "0 NOOP", "zz NOOP", "9z NOOP", "z9 NOOP", "a EXPUNGE", "a CREATE d", "a DELETE b",
        "a APPEND b () a", "a APPEND b (SSSSAAAAFFFFDDDDSAFD) abcdef", "a APPEND a (D) z", "a STORE 1 ()",
        "a STORE 1 +()", "a STORE 1 -(SAFD)", "a STORE 001:3,2,1,*:* (S)", "a UID STORE 0,999,* +(S)",
        "a FETCH 1 FLAGS", "a FETCH * UID", "a FETCH *:1 TEXT", "a UID FETCH 0 UID", "a UID FETCH 000:* FLAGS",
        "a COPY 1 b", "a UID COPY 77 b", "a SEARCH ALL", "a SEARCH 1", "a SEARCH *", "a SEARCH HAS S HAS A HAS F",
        "a SEARCH TEXT z", "a SEARCH TEXT abcdef", "a SEARCH UID 0:999", "a SEARCH NOT ALL", "a SEARCH OR 1 2",
        "a SEARCH OR OR 1 2 3", "a SEARCH (1)", "a SEARCH (1 2) (3)", "a UID SEARCH NOT (OR UID 3 *:2 ALL)",
        "a SEARCH ((((((((ALL))))))))", "a SEARCH NOT NOT NOT NOT NOT NOT NOT NOT 1",
        "a SEARCH OR 1 OR 1 OR 1 OR 1 OR 1 OR 1 ((1))", "a SEARCH (NOT (NOT (NOT (NOT ALL))))",
        "a SEARCH ((((((((1 2) 3) 1) 2))) 3)) 1 2 3", "a SELECT b", "a EXAMINE a", "a CLOSE", "a LOGOUT",
    };

    public static void main(String[] args) {
        Talk empty = new Talk();
        for (String line : NONE) {
            if (empty.calls > 480) {
                empty = new Talk();
            }
            Check.same(line, "IllegalArgumentException", empty.enter(0, line));
        }
        for (String line : SOME) {
            Talk x = new Talk();
            x.enter(0, "a CREATE b");
            x.enter(0, "a APPEND a () x");
            x.enter(0, "a APPEND a () x");
            x.enter(0, "a APPEND a () x");
            x.enter(0, "a SELECT a");
            Check.same(line, "OK", x.enter(0, line));
            Check.same("signs of the tag", line.substring(0, line.indexOf(' ')), tagOf(x.reply(0)));
        }
        noCommandChangesNothing();
        Check.end();
    }

    private static String tagOf(String reply) {
        String last = reply.substring(reply.lastIndexOf('\n') + 1);
        return last.substring(0, last.indexOf(' '));
    }

    private static void noCommandChangesNothing() {
        Talk x = new Talk();
        int[] nobody = {-1, 3, Integer.MAX_VALUE, Integer.MIN_VALUE};
        for (int session : nobody) {
            Check.same("enter " + session, "IndexOutOfBoundsException", Check.thrown(() -> x.mail.enter(session)));
        }
        Check.same("enter 1", "IllegalStateException", Check.thrown(() -> x.mail.enter(1)));
        x.enter(0, "a APPEND a (D) x");
        x.enter(0, "b SELECT a");
        String before = x.reply(0);
        x.enter(0, "a STORE * (S) ");
        x.enter(0, "a EXPUNGE ");
        x.enter(0, "a APPEND a () a ");
        x.enter(0, "a CLOSE ");
        Check.same("messages", "1:8:1", x.listed(0));
        Check.same("view", 1, x.mail.view(0));
        Check.same("reply", before, x.reply(0));
        Check.same("the line is empty", "a OK", x.ask(0, "a NOOP"));
    }
}

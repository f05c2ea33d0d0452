/** The first sections of the terms: MAILBOXES and SESSIONS. */
final class MailboxEdgeTest {
    public static void main(String[] args) {
        atFirstAlone();
        validities();
        nextNumbers();
        neverGivenTwice();
        asLongAsItIsThere();
        atMostTen();
        risingOrder();
        sixteenSetsOfFlags();
        lettersOfTexts();
        sessions();
        ownViews();
        Check.end();
    }

    private static void row(Talk x, String name, int messages, int validity, int next) {
        Check.same(name, "* " + messages + " EXISTS|* " + validity + " UIDVALIDITY|* " + next + " UIDNEXT|a OK",
                x.ask(0, "a EXAMINE " + name));
    }

    /** "a mailbox is there or not; at first a alone is" */
    private static void atFirstAlone() {
        Talk x = new Talk();
        row(x, "a", 0, 1, 1);
        for (String name : new String[] {"b", "c", "d"}) {
            Check.same(name, "a NO", x.ask(0, "a EXAMINE " + name));
        }
        x.then("0 a CREATE d", "0 a CREATE c", "0 a CREATE b", "0 a CLOSE", "0 a DELETE a");
        Check.same("all but a", "not there, , , ", x.listed(0) + ", " + x.listed(1) + ", " + x.listed(2) + ", "
                + x.listed(3));
        Check.same("a", "a NO", x.ask(0, "a SELECT a"));
    }

    /** "1 for a at first; the next mailbox that is created gets 2, and so on" */
    private static void validities() {
        Talk x = new Talk();
        Check.same("a refused one gets none", "a NO", x.ask(0, "a CREATE a"));
        Check.same("no command gets none", "IllegalArgumentException", x.ask(0, "a CREATE e"));
        x.then("0 a CREATE c", "0 a CREATE b", "0 a DELETE c", "0 a CREATE c", "0 a DELETE a", "0 a CREATE a");
        row(x, "b", 0, 3, 1);
        row(x, "c", 0, 4, 1);
        row(x, "a", 0, 5, 1);
        Talk y = new Talk();
        for (int i = 0; i < 5; i++) {
            y.then("0 a CREATE b", "0 a DELETE b");
        }
        y.then("0 a CREATE b");
        row(y, "b", 0, 7, 1);
        Talk z = new Talk();
        for (int i = 2; i < 10; i++) {
            z.then("0 a CREATE b", "0 a DELETE b");
        }
        z.then("0 a CREATE b");
        row(z, "b", 0, 10, 1);
        row(z, "a", 0, 1, 1);
    }

    /** "a NEXT number, 1 at first"; "the mailbox's NEXT when it came; that grows by 1 then" */
    private static void nextNumbers() {
        Talk x = Talk.after("0 a CREATE b");
        row(x, "a", 0, 1, 1);
        row(x, "b", 0, 2, 1);
        x.then("0 a APPEND a () x");
        row(x, "a", 1, 1, 2);
        row(x, "b", 0, 2, 1);
        x.then("0 a APPEND a () x", "0 a SELECT a", "0 a COPY 1:2 a", "0 a COPY 2:4 b", "0 a APPEND b () x");
        row(x, "a", 4, 1, 5);
        row(x, "b", 4, 2, 5);
        Check.same("numbers of b", "1:0:1 2:0:1 3:0:1 4:0:1", x.listed(1));
    }

    /** "numbers of their own that are never given twice in a mailbox" */
    private static void neverGivenTwice() {
        Talk x = Talk.after("0 a APPEND a () x", "0 a APPEND a (D) x", "0 a SELECT a", "0 a EXPUNGE");
        row(x, "a", 1, 1, 3);
        x.then("0 a APPEND a (D) x");
        Check.same("after EXPUNGE", "1:0:1 3:8:1", x.listed(0));
        x.then("0 a SELECT a", "0 a CLOSE");
        row(x, "a", 1, 1, 4);
        x.then("0 a APPEND a (D) x");
        Check.same("after CLOSE", "1:0:1 4:8:1", x.listed(0));
        x.then("0 a SELECT a", "0 a STORE 1 (D)", "0 a CLOSE");
        row(x, "a", 0, 1, 5);
        x.then("0 a APPEND a () x");
        Check.same("when all went", "5:0:1", x.listed(0));
    }

    /** "as long as it is there" */
    private static void asLongAsItIsThere() {
        Talk x = Talk.after("0 a APPEND a () x", "0 a APPEND a () yy", "0 a DELETE a");
        Check.same("deleted", "not there", x.listed(0));
        x.then("0 a CREATE a");
        row(x, "a", 0, 2, 1);
        Check.same("new to the view", "* 1 EXISTS|a OK", x.ask(0, "a APPEND a () zzz"));
        Check.same("from 1 on again", "1:0:3", x.listed(0));
        row(x, "a", 1, 2, 2);
    }

    /** "a row of at most 10 MESSAGES" */
    private static void atMostTen() {
        Talk x = new Talk();
        for (int i = 0; i < 10; i++) {
            Check.same("message " + i, i, x.mail.messages(0));
            x.then("0 a APPEND a () x");
        }
        Check.same("ten", 10, x.mail.messages(0));
        Check.same("an eleventh", "a NO", x.ask(0, "a APPEND a () x"));
        Check.same("ten", 10, x.mail.messages(0));
        row(x, "a", 10, 1, 11);
        Check.same("another mailbox has its own ten", "OK", x.then("0 a CREATE b").enter(0, "a APPEND b () x"));
    }

    /** "in rising order of their NUMBERS" */
    private static void risingOrder() {
        Talk x = Talk.after("0 a APPEND a () x", "0 a APPEND a (D) xx", "0 a APPEND a (S) xxx", "0 a APPEND a (D) x",
                "0 a SELECT a", "0 a EXPUNGE", "0 a APPEND a (F) xxxx", "0 a COPY 2,1 a");
        Check.same("row", "1:0:1 3:1:3 5:4:4 6:0:1 7:1:3", x.listed(0));
    }

    /** "FLAGS, some of S, A, F, D": none to all, told "in the order S A F D in brackets" */
    private static void sixteenSetsOfFlags() {
        for (int flags = 0; flags < 16; flags++) {
            StringBuilder forward = new StringBuilder();
            StringBuilder backward = new StringBuilder();
            for (int i = 0; i < 4; i++) {
                if ((flags >> i & 1) != 0) {
                    forward.append("SAFD".charAt(i));
                    backward.insert(0, "SAFD".charAt(i));
                }
            }
            Talk x = Talk.after("0 a APPEND a (" + backward + ") x", "0 a SELECT a");
            Check.same("flags", "1:" + flags + ":1", x.listed(0));
            Check.same("fetch", "* 1 FETCH (" + forward + ")|a OK", x.ask(0, "a FETCH 1 FLAGS"));
            Check.same("store", "* 1 FETCH (" + forward + ")|a OK", x.ask(0, "a STORE 1 (" + backward + ")"));
            Check.same("flags", "1:" + flags + ":1", x.listed(0));
        }
    }

    /** "a TEXT of 1 to 6 letters a .. z" */
    private static void lettersOfTexts() {
        for (String text : new String[] {"a", "z", "az", "abc", "wxyz", "zzzzz", "abcxyz"}) {
            Talk x = Talk.after("0 a APPEND a () " + text, "0 a EXAMINE a");
            Check.same(text, "* 1 FETCH " + text + "|a OK", x.ask(0, "a FETCH 1 TEXT"));
            Check.same(text, text.length(), x.mail.message(0, 0, 2));
        }
    }

    /** "SESSIONS 0, 1, 2 are CONNECTED or not; at first 0 alone is." */
    private static void sessions() {
        Talk x = new Talk();
        for (int session = 1; session < 3; session++) {
            int one = session;
            Check.same("not connected", "IllegalStateException", Check.thrown(() -> x.mail.enter(one)));
            x.then("connect " + session);
            Check.same("none selected", -1, x.view(session));
            Check.same("none selected", "a NO", x.ask(session, "a CLOSE"));
            Check.same("connected", "* 0 EXISTS|* 1 UIDVALIDITY|* 1 UIDNEXT|a OK", x.ask(session, "a SELECT a"));
        }
        Check.same("each its own", "-1 0 0", x.view(0) + " " + x.view(1) + " " + x.view(2));
    }

    /** "each session numbers the messages by its own view, which changes only when it is told so" */
    private static void ownViews() {
        Talk x = Talk.after("0 a APPEND a (D) x", "0 a APPEND a () y", "0 a SELECT a", "connect 1", "1 b SELECT a",
                "connect 2", "2 c SELECT a", "1 b EXPUNGE", "1 b APPEND a () z", "2 c FETCH 1 UID");
        Check.same("each its own", "2 2 3", x.view(0) + " " + x.view(1) + " " + x.view(2));
        Check.same("session 1", "* 1 FETCH y|* 1 FETCH (S)|b OK", x.ask(1, "b FETCH 1 TEXT"));
        Check.same("session 2", "* 2 FETCH (S)|c OK", x.ask(2, "c FETCH 2 FLAGS"));
        Check.same("session 0", "* 2 FETCH 2|* 3 EXISTS|* 2 FETCH (S)|a OK", x.ask(0, "a FETCH 2 UID"));
        x.then("0 a CREATE b", "0 a SELECT b");
        Check.same("each its own", "0 2 3", x.view(0) + " " + x.view(1) + " " + x.view(2));
    }
}

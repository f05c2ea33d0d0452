/** Promises 1 to 9, call by call: each exception, which comes first, and what stands after a refused call. */
final class FaceEdgeTest {
    private static final String NO_SESSION = "IndexOutOfBoundsException";
    private static final String NOT_CONNECTED = "IllegalStateException";
    private static final String BAD = "IllegalArgumentException";
    private static final String NO_MESSAGE = "NoSuchElementException";
    private static final int[] NO_SESSIONS = {-1, 3, 4, 255, 256, Integer.MAX_VALUE, Integer.MIN_VALUE};
    private static final int[] NO_MAILBOXES = {-1, 4, 97, 100, Integer.MAX_VALUE, Integer.MIN_VALUE};

    /** Session 0 has a line begun, a reply, and things to be told; session 2 is not connected any more. */
    private static final String[] BUSY = {
        "0 a APPEND a (D) x", "0 a APPEND a () y", "connect 1", "connect 2", "2 c LOGOUT", "0 a SELECT a",
        "1 b EXAMINE a", "0 a EXPUNGE", "1 b NOOP", "0 a STORE 1 (F)", "type 0 e NO", "type 1 f NOOP",
    };

    public static void main(String[] args) {
        newObject();
        typeBytes();
        typeUpToFortyEight();
        typeRefused();
        typeWhichComesFirst();
        typeNotPrintable();
        enterAnswers();
        enterRefused();
        enterNoCommand();
        connect();
        connectRefused();
        repliedAndReply();
        replyRefused();
        view();
        messages();
        message();
        messageRefused();
        lastCallOf512();
        Check.end();
    }

    /** Promise 1. "All as said; lines and replies are empty." */
    private static void newObject() {
        Talk x = new Talk();
        for (int session = 0; session < 3; session++) {
            Check.same("reply", 0, x.mail.replied(session));
            Check.same("view", -1, x.view(session));
        }
        Check.same("mailboxes", ", not there, not there, not there",
                x.listed(0) + ", " + x.listed(1) + ", " + x.listed(2) + ", " + x.listed(3));
        Check.same("line", BAD, x.enter(0, ""));
        x.then("connect 1", "connect 2");
        Check.same("line", BAD, x.enter(1, ""));
        Check.same("line", BAD, x.enter(2, ""));
        Talk y = Talk.after("0 a APPEND a () x", "0 a CREATE b", "connect 1");
        Check.same("another object has nothing of it", "0 -1", x.mail.messages(0) + " " + x.mail.messages(1));
        Check.same("nor this of another", 1, y.mail.messages(0));
    }

    /** Promise 2. "the bytes of four, the lowest byte first, up to the first that is 0" */
    private static void typeBytes() {
        MailSessions mail = new MailSessions();
        Check.same("four", true, mail.type(0, 'a' | ' ' << 8 | 'N' << 16 | 'O' << 24));
        Check.same("none", true, mail.type(0, 0));
        Check.same("none before the first that is 0", true, mail.type(0, 'X' << 8 | 'X' << 16 | 'X' << 24));
        Check.same("one", true, mail.type(0, 'O' | 'X' << 16 | 'X' << 24));
        Check.same("one, and behind the 0 what would be none", true, mail.type(0, 'P' | 31 << 16 | 255 << 24));
        Check.same("the line", 0, mail.enter(0));
        Check.same("three", true, mail.type(0, 'b' | ' ' << 8 | 'N' << 16));
        Check.same("two", true, mail.type(0, 'O' | 'O' << 8 | 7 << 24));
        Check.same("one", true, mail.type(0, 'P'));
        Check.same("the line", 0, mail.enter(0));
        Check.same("reply", 'b', mail.reply(0, 0));
    }

    /** "False, changing nothing, when the line would have more than 48" */
    private static void typeUpToFortyEight() {
        String full = "a SEARCH " + "ALL ".repeat(9) + "ALL";
        for (int typed = 40; typed <= 48; typed++) {
            for (int more = 0; more <= 4; more++) {
                Talk x = Talk.after("0 a SELECT a", "type 0 " + full.substring(0, typed));
                int four = Talk.four("ALL ".substring(0, more), 0);
                Check.same(typed + " and " + more, typed + more <= 48, x.mail.type(0, four));
            }
            Talk y = Talk.after("0 a SELECT a", "type 0 " + full.substring(0, typed));
            for (int i = 0; typed > 44 && i < 3; i++) {
                Check.same("refused", false, y.mail.type(0, Talk.four("XXXX", 0)));
            }
            y.then("type 0 " + full.substring(typed));
            Check.same("the line as it was, to its end", "* SEARCH|a OK", y.ask(0, ""));
            Check.same("empty again", "b OK", y.ask(0, "b NOOP"));
        }
    }

    private static void typeRefused() {
        for (int session : NO_SESSIONS) {
            Twins.thrown("type " + session, NO_SESSION, mail -> mail.type(session, 'a'), BUSY);
        }
        Twins.thrown("type 2", NOT_CONNECTED, mail -> mail.type(2, 'a'), BUSY);
        int[] bad = {
            31, 127, 128, 255, 1, 10, 0x1F61, 0x7F61, 0x1F6161, 0x7F6161, 0x1F616161, 0x7F616161, 0x80616161, -1,
        };
        for (int four : bad) {
            Twins.thrown("type 0, " + four, BAD, mail -> mail.type(0, four), BUSY);
        }
    }

    /** "an exception comes before that"; no such session, then not connected, then a bad character */
    private static void typeWhichComesFirst() {
        for (int session : NO_SESSIONS) {
            Check.same("no such session", NO_SESSION, Check.thrown(() -> new MailSessions().type(session, 31)));
            Check.same("also for nothing", NO_SESSION, Check.thrown(() -> new MailSessions().type(session, 0)));
        }
        Check.same("not connected", NOT_CONNECTED, Check.thrown(() -> new MailSessions().type(1, 31)));
        Check.same("also for nothing", NOT_CONNECTED, Check.thrown(() -> new MailSessions().type(2, 0)));
        String full = "a SEARCH " + "ALL ".repeat(9) + "ALL";
        int[] bad = {31, 127, 'a' | 200 << 8, 'a' | 'a' << 8 | 'a' << 16 | 31 << 24};
        for (int four : bad) {
            Twins.thrown("bad before too long", BAD, mail -> mail.type(0, four), "0 a SELECT a", "type 0 " + full);
            Twins.thrown("bad before too long", BAD, mail -> mail.type(0, four), "0 a SELECT a",
                    "type 0 " + full.substring(0, 47));
        }
    }

    /** "when one of the characters is not 32 .. 126" */
    private static void typeNotPrintable() {
        for (int code = 1; code < 256; code++) {
            int one = code;
            String due = code < 32 || code > 126 ? BAD : "nothing";
            for (int place = 0; place < 4; place++) {
                int before = place == 0 ? 0 : 0x20202020 >>> (8 * (4 - place));
                int shift = 8 * place;
                Check.same("code " + code, due, Check.thrown(() -> new MailSessions().type(0, before | one << shift)));
            }
        }
    }

    /** Promise 3. "Answers 0 for OK, 1 for NO"; "it gets its reply, and the line is empty" */
    private static void enterAnswers() {
        Talk x = Talk.after("type 0 a NOOP");
        Check.same("OK", 0, x.mail.enter(0));
        Check.same("reply", "a OK", x.reply(0));
        Check.same("empty", BAD, x.enter(0, ""));
        x.type(0, "b CLOSE");
        Check.same("NO", 1, x.mail.enter(0));
        Check.same("reply", "b NO", x.reply(0));
        Check.same("empty after NO too", "c OK", x.ask(0, "c NOOP"));
        Check.same("empty after LOGOUT too", "d OK", x.ask(0, "d LOGOUT"));
        x.then("connect 0");
        Check.same("empty after LOGOUT too", BAD, x.enter(0, ""));
        Talk y = Talk.after("connect 1", "type 0 a N", "type 1 b CREATE b", "type 0 OOP");
        Check.same("each its own line", 0, y.mail.enter(1));
        Check.same("each its own line", 0, y.mail.enter(0));
        Check.same("each its own reply", "a OK, b OK", y.reply(0) + ", " + y.reply(1));
    }

    private static void enterRefused() {
        for (int session : NO_SESSIONS) {
            Twins.thrown("enter " + session, NO_SESSION, mail -> mail.enter(session), BUSY);
        }
        Twins.thrown("enter 2", NOT_CONNECTED, mail -> mail.enter(2), BUSY);
        Check.same("not connected, before no command", NOT_CONNECTED,
                Check.thrown(() -> new MailSessions().enter(1)));
    }

    /** "when the line is no command: the line is empty then, too, and the reply as it was" */
    private static void enterNoCommand() {
        String[] before = {
            "0 a CREATE b", "0 a APPEND a (D) x", "0 a APPEND a () y", "connect 1", "0 a SELECT a", "1 b SELECT a",
            "1 b EXPUNGE", "1 b STORE 1 (F)", "1 b APPEND a (D) z",
        };
        String[] lines = {
            "", "t", "t NOOP ", "t CLOSE ", "t EXPUNGE a", "t LOGOUT ", "t CREATE c ", "t DELETE bb", "t SELECT ab",
            "t EXAMINE b ", "t APPEND b () x ", "t APPEND b () abcdefg", "t STORE 1 (S) ", "t STORE 1 (SX)",
            "t FETCH 1 TEXT ", "t FETCH 1 FLAGS,", "t COPY 1 b ", "t SEARCH ALL ", "t UID FETCH 1:* TEXTS",
            "t UID NOOP",
        };
        for (String line : lines) {
            Twins.noCommand(0, line, before);
        }
        Talk x = Talk.after("0 a EXAMINE a");
        String reply = x.reply(0);
        Check.same("no command", BAD, x.enter(0, "b CLOS"));
        Check.same("the reply as it was", reply, x.reply(0));
        Check.same("the line is empty", BAD, x.enter(0, "E"));
        Check.same("the view as it was", 0, x.view(0));
    }

    /** Promise 4. "with no mailbox selected, its line empty (its reply stays)" */
    private static void connect() {
        for (int session = 0; session < 3; session++) {
            Talk x = session == 0 ? new Talk() : Talk.after("connect " + session);
            x.then(session + " a SELECT a", session + " zz LOGOUT", "connect " + session);
            Check.same("none selected", -1, x.view(session));
            Check.same("none selected", BAD, x.enter(session, ""));
            Check.same("its reply stays", "zz OK", x.reply(session));
            Check.same("none selected", "a NO", x.ask(session, "a EXPUNGE"));
            Check.same("it can delete what it had selected", "a OK", x.ask(session, "a DELETE a"));
        }
        Talk y = Talk.after("connect 1");
        Check.same("a first reply", 0, y.mail.replied(1));
        Check.same("session 2 is not connected by that", NOT_CONNECTED, Check.thrown(() -> y.mail.type(2, 'a')));
    }

    private static void connectRefused() {
        for (int session : NO_SESSIONS) {
            Twins.thrown("connect " + session, NO_SESSION, mail -> mail.connect(session), BUSY);
        }
        Twins.thrown("connect 0", NOT_CONNECTED, mail -> mail.connect(0), BUSY);
        Twins.thrown("connect 1", NOT_CONNECTED, mail -> mail.connect(1), BUSY);
        Twins.thrown("connect 0", NOT_CONNECTED, mail -> mail.connect(0));
    }

    /** Promises 5 and 6. "0 when there was none"; the latest, also a shorter one */
    private static void repliedAndReply() {
        Talk x = Talk.after("connect 1", "0 a EXAMINE a", "1 b1 NOOP");
        String whole = "* 0 EXISTS\n* 1 UIDVALIDITY\n* 1 UIDNEXT\na OK";
        Check.same("replied", whole.length(), x.mail.replied(0));
        for (int i = 0; i < whole.length(); i++) {
            Check.same("sign " + i, whole.charAt(i), x.mail.reply(0, i));
        }
        Check.same("replied", 5, x.mail.replied(1));
        Check.same("its own", 'b', x.mail.reply(1, 0));
        Check.same("its last", 'K', x.mail.reply(1, 4));
        Check.same("none", 0, x.mail.replied(2));
        x.enter(0, "c CREATE a");
        Check.same("of NO", "c NO", x.reply(0));
        Check.same("the latest", 4, x.mail.replied(0));
        x.type(0, "d NO");
        Check.same("typing changes none", "c NO", x.reply(0));
        x.then("0 OP", "0 e LOGOUT");
        Check.same("not connected", "e OK", x.reply(0));
    }

    private static void replyRefused() {
        for (int session : NO_SESSIONS) {
            Twins.thrown("replied " + session, NO_SESSION, mail -> mail.replied(session), BUSY);
            Twins.thrown("reply " + session, NO_SESSION, mail -> mail.reply(session, 0), BUSY);
        }
        int length = Talk.after(BUSY).mail.replied(0);
        for (int i : new int[] {-1, length, length + 1, 1023, 1024, Integer.MAX_VALUE, Integer.MIN_VALUE}) {
            Twins.thrown("reply 0, " + i, NO_SESSION, mail -> mail.reply(0, i), BUSY);
        }
        for (int session = 0; session < 3; session++) {
            int one = session;
            Check.same("none yet", NO_SESSION, Check.thrown(() -> new MailSessions().reply(one, 0)));
            Check.same("none yet", NO_SESSION, Check.thrown(() -> new MailSessions().reply(one, -1)));
        }
        Talk x = Talk.after("0 a EXAMINE a", "0 b NOOP");
        Check.same("behind a shorter reply", NO_SESSION, Check.thrown(() -> x.mail.reply(0, 4)));
    }

    /** Promise 7. "-1 when it has no mailbox selected, is not connected, or there is no such session" */
    private static void view() {
        Talk x = Talk.after(BUSY);
        Check.same("to write", 1, x.view(0));
        Check.same("to read", 1, x.view(1));
        Check.same("not connected", -1, x.view(2));
        for (int session : NO_SESSIONS) {
            Check.same("session " + session, -1, x.view(session));
        }
        Talk y = Talk.after("0 a SELECT a");
        Check.same("empty", 0, y.view(0));
        y.then("connect 1", "1 b APPEND a () x");
        Check.same("none selected", -1, y.view(1));
        Check.same("not yet told", 0, y.view(0));
        y.then("0 a NOOP");
        Check.same("told", 1, y.view(0));
        y.then("0 a CLOSE");
        Check.same("closed", -1, y.view(0));
        y.then("0 a SELECT a", "0 a LOGOUT");
        Check.same("not connected", -1, y.view(0));
        y.then("connect 0");
        Check.same("none selected", -1, y.view(0));
    }

    /** Promise 8. "-1 when it is not there" */
    private static void messages() {
        Talk x = Talk.after("0 a APPEND a () x", "0 a CREATE d", "0 a APPEND d () x", "0 a APPEND d () x");
        Check.same("a", 1, x.mail.messages(0));
        Check.same("b", -1, x.mail.messages(1));
        Check.same("c", -1, x.mail.messages(2));
        Check.same("d", 2, x.mail.messages(3));
        for (int mailbox : NO_MAILBOXES) {
            Check.same("mailbox " + mailbox, -1, x.mail.messages(mailbox));
        }
        x.then("0 a DELETE d");
        Check.same("deleted", -1, x.mail.messages(3));
        x.then("0 a CREATE d");
        Check.same("created", 0, x.mail.messages(3));
    }

    /** Promise 9. "1 for S, 2 for A, 4 for F, 8 for D, together" */
    private static void message() {
        Talk x = Talk.after("0 a CREATE b", "0 a APPEND b (D) abcdef", "0 a APPEND b (S) a", "0 a APPEND b (A) ab",
                "0 a APPEND b (F) abc", "0 a APPEND b (SAFD) abcd", "0 a APPEND b () abcde", "0 a SELECT b");
        Check.same("row", "1:8:6 2:1:1 3:2:2 4:4:3 5:15:4 6:0:5", x.listed(1));
        x.then("0 a EXPUNGE");
        Check.same("message i, not number i", "2:1:1 3:2:2 4:4:3 6:0:5", x.listed(1));
        x.then("0 a STORE 1:* -(S)");
        Check.same("flags of now", "2:0:1 3:2:2 4:4:3 6:0:5", x.listed(1));
    }

    private static void messageRefused() {
        for (int mailbox : NO_MAILBOXES) {
            Twins.thrown("mailbox " + mailbox, NO_MESSAGE, mail -> mail.message(mailbox, 0, 0), BUSY);
        }
        Twins.thrown("one that is not there", NO_MESSAGE, mail -> mail.message(1, 0, 0), BUSY);
        for (int i : new int[] {-1, 1, 2, 9, 10, 11, Integer.MAX_VALUE, Integer.MIN_VALUE}) {
            Twins.thrown("message " + i, NO_MESSAGE, mail -> mail.message(0, i, 0), BUSY);
        }
        for (int what : new int[] {-1, 3, 4, 8, Integer.MAX_VALUE, Integer.MIN_VALUE}) {
            Twins.thrown("what " + what, NO_MESSAGE, mail -> mail.message(0, 0, what), BUSY);
        }
        Talk x = new Talk();
        Check.same("none in an empty one", NO_MESSAGE, Check.thrown(() -> x.mail.message(0, 0, 0)));
        for (int i = 0; i < 10; i++) {
            x.then("0 a APPEND a () x");
        }
        Check.same("the tenth", 10, x.mail.message(0, 9, 0));
        Check.same("an eleventh", NO_MESSAGE, Check.thrown(() -> x.mail.message(0, 10, 0)));
        Talk y = Talk.after("0 a CREATE b", "0 a APPEND b () x", "0 a DELETE b");
        Check.same("of a deleted one", NO_MESSAGE, Check.thrown(() -> y.mail.message(1, 0, 0)));
        y.then("0 a CREATE b");
        Check.same("of one created again", NO_MESSAGE, Check.thrown(() -> y.mail.message(1, 0, 0)));
    }

    /** "An object is used for at most 512 calls": the 512th is still answered as said. */
    private static void lastCallOf512() {
        Talk x = Talk.after("0 a SELECT a");
        int messages = 0;
        while (x.calls + 9 < Talk.MOST_CALLS) {
            x.then("0 a APPEND a (D) x", "0 a EXPUNGE");
            messages++;
        }
        int left = Talk.MOST_CALLS - x.calls;
        for (int i = 1; i < left; i++) {
            Check.same("view", 0, x.view(0));
        }
        Check.same("call 512", "* 1 EXPUNGE\na OK".length(), x.mail.replied(0));
        Check.same("messages", true, messages > 50);
    }
}

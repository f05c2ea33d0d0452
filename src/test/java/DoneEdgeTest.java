/** Promise 3, the section WHAT IS DONE: what each command does and replies, before what is told at last. */
final class DoneEdgeTest {
    /** S at place 1, none at 2, F and D at 3; b is there. */
    private static final String[] THREE = {
        "0 a CREATE b", "0 a APPEND a (S) abc", "0 a APPEND a () de", "0 a APPEND a (FD) f", "0 a SELECT a",
    };

    /** Session 1 knows a message with D that session 0 was not told of, and place 2 of session 0 is gone. */
    private static final String[] GONE_AND_NEW = {
        "0 a CREATE b", "0 a APPEND a () abc", "0 a APPEND a (D) de", "0 a APPEND a () f", "0 a SELECT a", "connect 1",
        "1 b SELECT a", "1 b EXPUNGE", "1 b APPEND a (D) g",
    };

    public static void main(String[] args) {
        lastLine();
        create();
        delete();
        append();
        logout();
        close();
        closeOfWhatIsRead();
        select();
        selectAgain();
        expunge();
        store();
        storeOnlyWhatIsNotGone();
        fetchFlags();
        fetchUid();
        fetchText();
        fetchTextOfWhatIsRead();
        copy();
        search();
        Check.end();
    }

    /** "the last one is the tag, a blank, and OK or NO"; "with a character 10 between two" */
    private static void lastLine() {
        Talk x = new Talk();
        Check.same("answer", 0, enter(x, "z9 NOOP"));
        Check.same("reply", "z9 OK", x.reply(0));
        Check.same("answer", 1, enter(x, "9 CLOSE"));
        Check.same("reply", "9 NO", x.reply(0));
        x.then("0 00 SELECT a");
        Check.same("reply", "* 0 EXISTS\n* 1 UIDVALIDITY\n* 1 UIDNEXT\n00 OK", x.reply(0));
    }

    private static int enter(Talk x, String line) {
        x.type(0, line);
        return x.mail.enter(0);
    }

    private static void create() {
        Talk x = new Talk();
        Check.same("create", "t OK", x.ask(0, "t CREATE b"));
        Check.same("without messages", "", x.listed(1));
        Check.same("it is selected by none", -1, x.view(0));
    }

    private static void delete() {
        Talk x = Talk.after(THREE);
        Check.same("delete", "t OK", x.ask(0, "t DELETE b"));
        Check.same("it is there no more", "not there", x.listed(1));
        Check.same("the others are", 3, x.mail.messages(0));
    }

    private static void append() {
        Talk x = Talk.after(THREE);
        Check.same("to another", "t OK", x.ask(0, "t APPEND b (DA) hijklm"));
        Check.same("to another", "1:10:6", x.listed(1));
        Check.same("to the selected one", "* 4 EXISTS|t OK", x.ask(0, "t APPEND a (A) n"));
        Check.same("to the selected one", "1:1:3 2:0:2 3:12:1 4:2:1", x.listed(0));
        Check.same("text", "* 4 FETCH n|* 4 FETCH (SA)|t OK", x.ask(0, "t FETCH 4 TEXT"));
    }

    /** "LOGOUT: the session is not connected any more", and no message goes. */
    private static void logout() {
        Talk x = Talk.after(GONE_AND_NEW);
        Check.same("logout", "t OK", x.ask(0, "t LOGOUT"));
        Check.same("view", -1, x.view(0));
        Check.same("no message goes", "1:0:3 3:0:1 4:8:1", x.listed(0));
        Check.same("not connected", "IllegalStateException", Check.thrown(() -> x.mail.enter(0)));
        Check.same("the others are", "OK", x.enter(1, "t LOGOUT"));
        Check.same("none is", "IllegalStateException", Check.thrown(() -> x.mail.type(1, 'a')));
    }

    /** "when it is selected to write, all messages with the flag D go": also those not in the view */
    private static void close() {
        Talk x = Talk.after(GONE_AND_NEW);
        Check.same("close tells nothing", "t OK", x.ask(0, "t CLOSE"));
        Check.same("all with D go", "1:0:3 3:0:1", x.listed(0));
        Check.same("then none is selected", -1, x.view(0));
        Check.same("then none is selected", "t NO", x.ask(0, "t CLOSE"));
        Check.same("the other is told", "* 3 EXPUNGE|u OK", x.ask(1, "u NOOP"));
        Talk all = Talk.after("0 a APPEND a (D) x", "0 a APPEND a (SAFD) x", "0 a SELECT a", "0 a CLOSE");
        Check.same("all", "", all.listed(0));
        Talk empty = Talk.after("0 a SELECT a");
        Check.same("none to go", "t OK", empty.ask(0, "t CLOSE"));
    }

    private static void closeOfWhatIsRead() {
        Talk x = Talk.after(GONE_AND_NEW).then("0 a EXAMINE a");
        Check.same("close", "t OK", x.ask(0, "t CLOSE"));
        Check.same("none goes", "1:0:3 3:0:1 4:8:1", x.listed(0));
        Check.same("then none is selected", -1, x.view(0));
        Check.same("then none is selected", "t NO", x.ask(0, "t SEARCH ALL"));
    }

    /** "the view is all its messages, with their flags told" */
    private static void select() {
        Talk x = Talk.after("0 a CREATE b");
        Check.same("empty", "* 0 EXISTS|* 1 UIDVALIDITY|* 1 UIDNEXT|t OK", x.ask(0, "t SELECT a"));
        Check.same("empty", 0, x.view(0));
        Talk y = Talk.after(THREE);
        Check.same("with", "* 3 EXISTS|* 1 UIDVALIDITY|* 4 UIDNEXT|t OK", y.ask(0, "t EXAMINE a"));
        Check.same("with", 3, y.view(0));
        Check.same("flags are told", "t OK", y.ask(0, "t NOOP"));
        y.then("0 a SELECT b", "connect 1", "1 b SELECT a", "1 b STORE 1 (A)", "1 b STORE 3 ()");
        Check.same("another is selected", "t OK", y.ask(0, "t NOOP"));
        Check.same("back", "* 3 EXISTS|* 1 UIDVALIDITY|* 4 UIDNEXT|t OK", y.ask(0, "t SELECT a"));
        Check.same("with the flags as they are", "t OK", y.ask(0, "t NOOP"));
    }

    /** SELECT and EXAMINE of what is selected: a new view, nothing told at last, nothing expunged. */
    private static void selectAgain() {
        for (String word : new String[] {"SELECT", "EXAMINE"}) {
            Talk x = Talk.after(GONE_AND_NEW).then("1 b STORE 1 (D)");
            Check.same(word, "* 3 EXISTS|* 1 UIDVALIDITY|* 5 UIDNEXT|t OK", x.ask(0, "t " + word + " a"));
            Check.same("a view without the gone one", 3, x.view(0));
            Check.same("nothing goes", "1:8:3 3:0:1 4:8:1", x.listed(0));
            Check.same("nothing is left to tell", "t OK", x.ask(0, "t NOOP"));
        }
    }

    /** "EXPUNGE: all messages with the flag D go from the mailbox": also those not in the view */
    private static void expunge() {
        Talk x = Talk.after(GONE_AND_NEW);
        Check.same("one was gone, one never came", "* 2 EXPUNGE|t OK", x.ask(0, "t EXPUNGE"));
        Check.same("left", "1:0:3 3:0:1", x.listed(0));
        Check.same("none has D", "t OK", x.ask(0, "t EXPUNGE"));
        x.then("0 a STORE 1:2 +(D)");
        Check.same("all", "* 1 EXPUNGE|* 1 EXPUNGE|t OK", x.ask(0, "t EXPUNGE"));
        Check.same("none", 0, x.mail.messages(0));
        Check.same("empty", "t OK", x.ask(0, "t EXPUNGE"));
    }

    /** "it has the flags f alone, or those besides (+), or those no more (-); the line * n FETCH f" */
    private static void store() {
        Check.same("alone", "* 3 FETCH (S)|t OK", Talk.after(THREE).ask(0, "t STORE 3 (S)"));
        Check.same("alone, none", "* 3 FETCH ()|t OK", Talk.after(THREE).ask(0, "t STORE 3 ()"));
        Check.same("besides", "* 3 FETCH (SFD)|t OK", Talk.after(THREE).ask(0, "t STORE 3 +(SF)"));
        Check.same("besides none", "* 3 FETCH (FD)|t OK", Talk.after(THREE).ask(0, "t STORE 3 +()"));
        Check.same("no more", "* 3 FETCH (F)|t OK", Talk.after(THREE).ask(0, "t STORE 3 -(DS)"));
        Check.same("no more, none", "* 3 FETCH (FD)|t OK", Talk.after(THREE).ask(0, "t STORE 3 -()"));
        Check.same("no more, all", "* 3 FETCH ()|t OK", Talk.after(THREE).ask(0, "t STORE 3 -(SAFD)"));
        Talk x = Talk.after(THREE);
        Check.same("in rising order", "* 1 FETCH (SA)|* 2 FETCH (A)|* 3 FETCH (AFD)|t OK",
                x.ask(0, "t STORE 3,1:2,2 +(A)"));
        Check.same("flags", "1:3:3 2:2:2 3:14:1", x.listed(0));
        Check.same("by number", "* 1 FETCH ()|* 2 FETCH ()|t OK", x.ask(0, "t UID STORE 0:2 -(SA)"));
        Check.same("flags", "1:0:3 2:0:2 3:14:1", x.listed(0));
    }

    private static void storeOnlyWhatIsNotGone() {
        Talk x = Talk.after(GONE_AND_NEW);
        Check.same("gone alone", "* 4 EXISTS|t OK", x.ask(0, "t STORE 2 (S)"));
        Check.same("gone among others", "* 1 FETCH (S)|* 3 FETCH (S)|* 4 FETCH (S)|t OK", x.ask(0, "t STORE 1:* (S)"));
        Check.same("gone alone, by number", "* 2 EXPUNGE|t OK", x.ask(0, "t UID STORE 2 (A)"));
        Check.same("flags", "1:1:3 3:1:1 4:1:1", x.listed(0));
    }

    private static void fetchFlags() {
        Talk x = Talk.after(THREE);
        Check.same("all", "* 1 FETCH (S)|* 2 FETCH ()|* 3 FETCH (FD)|t OK", x.ask(0, "t FETCH *:1 FLAGS"));
        x.then("connect 1", "1 b SELECT a", "1 b STORE 1:2 (A)");
        Check.same("its flags are told", "* 2 FETCH (A)|* 1 FETCH (A)|t OK", x.ask(0, "t FETCH 2 FLAGS"));
        Check.same("once", "t OK", x.ask(0, "t NOOP"));
        Check.same("only not gone", "* 1 FETCH ()|* 3 FETCH ()|* 4 EXISTS|t OK",
                Talk.after(GONE_AND_NEW).ask(0, "t FETCH 1:3 FLAGS"));
    }

    private static void fetchUid() {
        Talk x = Talk.after(GONE_AND_NEW);
        Check.same("only not gone", "* 1 FETCH 1|* 3 FETCH 3|* 4 EXISTS|t OK", x.ask(0, "t FETCH 3,2,1 UID"));
        Check.same("gone alone", "t OK", x.ask(0, "t FETCH 2 UID"));
        Check.same("by number", "* 3 FETCH 3|* 2 EXPUNGE|t OK", x.ask(0, "t UID FETCH 2:3 UID"));
        Check.same("place and number", "* 2 FETCH 3|* 3 FETCH 4|t OK", x.ask(0, "t FETCH 2:3 UID"));
        Check.same("S is given by TEXT alone", "1:0:3 3:0:1 4:8:1", x.listed(0));
    }

    /** "when it is selected to write, it has S from now on (which is not told by that line, but at last)" */
    private static void fetchText() {
        Talk x = Talk.after(THREE);
        Check.same("it had none", "* 2 FETCH de|* 2 FETCH (S)|t OK", x.ask(0, "t FETCH 2 TEXT"));
        Check.same("it had it", "* 2 FETCH de|t OK", x.ask(0, "t FETCH 2 TEXT"));
        Check.same("it had it", "* 1 FETCH abc|t OK", x.ask(0, "t FETCH 1 TEXT"));
        Check.same("all lines first", "* 1 FETCH abc|* 2 FETCH de|* 3 FETCH f|* 3 FETCH (SFD)|t OK",
                x.ask(0, "t UID FETCH 1:* TEXT"));
        Check.same("S", "1:1:3 2:1:2 3:13:1", x.listed(0));
        Talk y = Talk.after(GONE_AND_NEW);
        Check.same("only not gone", "* 1 FETCH abc|* 3 FETCH f|* 4 EXISTS|* 1 FETCH (S)|* 3 FETCH (S)|t OK",
                y.ask(0, "t FETCH 1:3 TEXT"));
        Check.same("the other is told", "* 1 FETCH (S)|* 2 FETCH (S)|u OK", y.ask(1, "u NOOP"));
    }

    private static void fetchTextOfWhatIsRead() {
        Talk x = Talk.after(THREE).then("0 a EXAMINE a");
        Check.same("no S", "* 2 FETCH de|* 3 FETCH f|t OK", x.ask(0, "t FETCH 2:3 TEXT"));
        Check.same("no S", "* 2 FETCH de|t OK", x.ask(0, "t UID FETCH 2 TEXT"));
        Check.same("no S", "1:1:3 2:0:2 3:12:1", x.listed(0));
    }

    private static void copy() {
        Talk x = Talk.after(THREE);
        Check.same("in rising order", "t OK", x.ask(0, "t COPY 3,1 b"));
        Check.same("flags and texts", "1:1:3 2:12:1", x.listed(1));
        Check.same("what was copied stays", "1:1:3 2:0:2 3:12:1", x.listed(0));
        x.then("0 a STORE 1 (A)");
        Check.same("the copy has flags of its own", "1:1:3 2:12:1", x.listed(1));
        Check.same("to itself", "* 6 EXISTS|t OK", x.ask(0, "t COPY 1:3 a"));
        Check.same("to itself", "1:2:3 2:0:2 3:12:1 4:2:3 5:0:2 6:12:1", x.listed(0));
        Check.same("text", "* 5 FETCH de|* 5 FETCH (S)|t OK", x.ask(0, "t FETCH 5 TEXT"));
        Talk y = Talk.after(GONE_AND_NEW);
        Check.same("only not gone", "* 2 EXPUNGE|* 3 EXISTS|t OK", y.ask(0, "t COPY 1:3 b"));
        Check.same("only not gone", "1:0:3 2:0:1", y.listed(1));
        Check.same("gone alone", "* 2 EXPUNGE|* 3 EXISTS|t OK", Talk.after(GONE_AND_NEW).ask(0, "t UID COPY 2 b"));
    }

    /** "the line * SEARCH, and behind it ... a blank and the place, behind UID the number" */
    private static void search() {
        Talk x = Talk.after(GONE_AND_NEW);
        Check.same("none", "* SEARCH|* 4 EXISTS|t OK", x.ask(0, "t SEARCH NOT ALL"));
        Check.same("one", "* SEARCH 3|t OK", x.ask(0, "t SEARCH TEXT f"));
        Check.same("all", "* SEARCH 1 3 4|t OK", x.ask(0, "t SEARCH ALL"));
        Check.same("none by number", "* SEARCH|* 2 EXPUNGE|t OK", x.ask(0, "t UID SEARCH TEXT de"));
        Check.same("all by number", "* SEARCH 1 3 4|t OK", x.ask(0, "t UID SEARCH ALL"));
        Check.same("all by place", "* SEARCH 1 2 3|t OK", x.ask(0, "t SEARCH ALL"));
        Check.same("S is given by FETCH alone", "1:0:3 3:0:1 4:8:1", x.listed(0));
    }
}

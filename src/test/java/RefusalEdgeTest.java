/** Promise 3: each ground for NO, what is just no ground, and that "NO comes alone, and nothing is done". */
final class RefusalEdgeTest {
    /** In b, which session 0 has selected: one message gone, one with other flags than told, one not yet told. */
    private static final String[] MUCH_TO_TELL = {
        "0 a CREATE b", "0 a APPEND b () x", "0 a APPEND b () y", "0 a SELECT b", "connect 1", "1 b SELECT b",
        "1 b STORE 1 (D)", "1 b EXPUNGE", "1 b STORE 1 (FD)", "1 b APPEND b () z",
    };

    /** The same, but session 0 reads only. */
    private static final String[] ONLY_TO_READ = {
        "0 a CREATE b", "0 a APPEND b () x", "0 a APPEND b () y", "0 a EXAMINE b", "connect 1", "1 b SELECT b",
        "1 b STORE 1 (D)", "1 b EXPUNGE", "1 b STORE 1 (FD)", "1 b APPEND b () z",
    };

    private static final String[] NONE_SELECTED = {
        "0 a CREATE b", "0 a APPEND b (D) x", "connect 1", "1 b SELECT b", "connect 2", "2 c EXAMINE b",
    };

    /** Ten messages in b, nine in a; session 0 sees b, session 1 sees a, and its newest is not yet told it. */
    private static final String[] FULL = {
        "0 a CREATE b", "0 a APPEND b () x", "0 a SELECT b", "0 a COPY 1 b", "0 a COPY 1:2 b", "0 a COPY 1:4 b",
        "0 a COPY 1:2 b", "0 a COPY 1:7 a", "connect 1", "1 b SELECT a", "0 a COPY 1:2 a",
    };

    public static void main(String[] args) {
        noneSelected();
        noneSelectedIsNoGroundForOthers();
        onlyToRead();
        onlyToReadIsNoGroundForOthers();
        mailboxThatIsNotThere();
        createOneThatIsThere();
        deleteOneThatIsSelected();
        deleteOneThatIsSelectedNoMore();
        appendToAFullOne();
        copyToAFullOne();
        copyCountsWhatIsCopied();
        wrongSets();
        selectAnsweredByNo();
        Check.end();
    }

    /** "a command from EXPUNGE, CLOSE, STORE, FETCH, COPY, SEARCH comes while no mailbox is selected" */
    private static void noneSelected() {
        String[] lines = {
            "t EXPUNGE", "t CLOSE", "t STORE 1 (S)", "t STORE 1 +(S)", "t STORE 1 -(D)", "t FETCH 1 FLAGS",
            "t FETCH 1 UID", "t FETCH 1 TEXT", "t COPY 1 a", "t SEARCH ALL", "t UID STORE 1 (S)", "t UID FETCH 1 TEXT",
            "t UID COPY 1 a", "t UID COPY 99 a", "t UID SEARCH ALL",
        };
        for (String line : lines) {
            Twins.refused(0, line, NONE_SELECTED);
        }
        for (String line : new String[] {"t EXPUNGE", "t CLOSE", "t UID STORE 1 (S)", "t UID FETCH 1 UID",
            "t UID COPY 1 b", "t SEARCH ALL"}) {
            Talk closed = Talk.after("0 a APPEND a () x", "0 a CREATE b", "0 a SELECT a", "0 a CLOSE");
            Check.same("after CLOSE: " + line, "t NO", closed.ask(0, line));
            Talk back = Talk.after("0 a APPEND a () x", "0 a SELECT a", "0 a LOGOUT", "connect 0");
            Check.same("after LOGOUT: " + line, "t NO", back.ask(0, line));
        }
    }

    private static void noneSelectedIsNoGroundForOthers() {
        String[] lines = {
            "t NOOP", "t CREATE c", "t SELECT b", "t EXAMINE b", "t APPEND b () x", "t LOGOUT", "t DELETE a",
        };
        for (String line : lines) {
            Check.same(line, "OK", Talk.after(NONE_SELECTED).enter(0, line));
        }
    }

    /** "EXPUNGE or STORE comes while it is selected to read" */
    private static void onlyToRead() {
        String[] lines = {
            "t EXPUNGE", "t STORE 1 (S)", "t STORE 2 +(S)", "t STORE * -(FD)", "t UID STORE 2 (S)", "t UID STORE 99 ()",
            "t STORE 9 (S)",
        };
        for (String line : lines) {
            Twins.refused(0, line, ONLY_TO_READ);
        }
        Talk empty = Talk.after("0 a EXAMINE a");
        Check.same("nothing there to expunge", "t NO", empty.ask(0, "t EXPUNGE"));
        Check.same("nothing there to store to", "t NO", empty.ask(0, "t UID STORE * ()"));
        Talk other = Talk.after(ONLY_TO_READ);
        Check.same("each session by its own", "OK", other.enter(1, "t STORE 1 (S)"));
        other.then("0 a SELECT b");
        Check.same("to write from now on", "OK", other.enter(0, "t STORE 1 (S)"));
    }

    private static void onlyToReadIsNoGroundForOthers() {
        String[] lines = {
            "t NOOP", "t CLOSE", "t FETCH 1 FLAGS", "t FETCH 1 TEXT", "t UID FETCH 1 UID", "t COPY 1 a",
            "t UID COPY 1 a", "t SEARCH ALL", "t UID SEARCH ALL", "t APPEND b () x", "t CREATE c", "t DELETE a",
            "t SELECT b", "t EXAMINE a", "t LOGOUT",
        };
        for (String line : lines) {
            Check.same(line, "OK", Talk.after(ONLY_TO_READ).enter(0, line));
        }
    }

    /** "a mailbox that is not there is named (but by CREATE)" */
    private static void mailboxThatIsNotThere() {
        String[] lines = {
            "t DELETE c", "t SELECT c", "t EXAMINE c", "t APPEND c () x", "t COPY 2 c", "t UID COPY 2 c",
            "t UID COPY 99 c", "t COPY 1 c",
        };
        for (String line : lines) {
            Twins.refused(0, line, MUCH_TO_TELL);
        }
        for (String line : new String[] {"t DELETE b", "t SELECT b", "t EXAMINE b", "t APPEND b () x"}) {
            Check.same("it was there: " + line, "t NO", Talk.after("0 a CREATE b", "0 a DELETE b").ask(0, line));
            Check.same("it is there: " + line, "OK", Talk.after("0 a CREATE b").enter(0, line));
        }
    }

    /** "CREATE names one that is there" */
    private static void createOneThatIsThere() {
        Twins.refused(0, "t CREATE a", MUCH_TO_TELL);
        Twins.refused(0, "t CREATE b", MUCH_TO_TELL);
        Twins.refused(1, "t CREATE b", MUCH_TO_TELL);
        Twins.refused(0, "t CREATE a");
        Talk x = Talk.after("0 a CREATE b", "0 a DELETE b", "0 a CREATE b");
        Check.same("there again", "t NO", x.ask(0, "t CREATE b"));
    }

    /** "DELETE one that a session has selected": itself or another, to write or to read */
    private static void deleteOneThatIsSelected() {
        Twins.refused(0, "t DELETE b", MUCH_TO_TELL);
        Twins.refused(1, "t DELETE b", MUCH_TO_TELL);
        Twins.refused(0, "t DELETE b", NONE_SELECTED);
        Twins.refused(0, "t DELETE a", "0 a SELECT a");
        Twins.refused(0, "t DELETE a", "0 a EXAMINE a");
        for (int other = 1; other < 3; other++) {
            Twins.refused(0, "t DELETE a", "0 a APPEND a () x", "connect " + other, other + " b SELECT a");
            Twins.refused(0, "t DELETE a", "0 a APPEND a () x", "connect " + other, other + " b EXAMINE a");
        }
        Twins.refused(2, "t DELETE a", "0 a APPEND a () x", "0 a SELECT a", "connect 2");
    }

    private static void deleteOneThatIsSelectedNoMore() {
        for (String line : new String[] {"1 b CLOSE", "1 b LOGOUT", "1 b SELECT b", "1 b EXAMINE b"}) {
            Talk x = Talk.after("0 a CREATE b", "connect 1", "1 b SELECT a");
            Check.same("before " + line, "t NO", x.ask(0, "t DELETE a"));
            x.then(line);
            Check.same("after " + line, "t OK", x.ask(0, "t DELETE a"));
            Check.same("after " + line, -1, x.mail.messages(0));
        }
    }

    /** "APPEND or COPY would make more than 10 messages": the tenth is in, the eleventh is out */
    private static void appendToAFullOne() {
        Twins.refused(0, "t APPEND b (S) x", FULL);
        Talk x = Talk.after(FULL);
        Check.same("nine", 9, x.mail.messages(0));
        Check.same("the tenth", "t OK", x.ask(0, "t APPEND a (S) xyz"));
        Check.same("ten", 10, x.mail.messages(0));
        Check.same("the eleventh", "t NO", x.ask(0, "t APPEND a (S) xyz"));
        Check.same("ten", 10, x.mail.messages(0));
        x.then("1 b NOOP", "1 b STORE 3 (D)", "1 b EXPUNGE");
        Check.same("nine again", "t OK", x.ask(0, "t APPEND a (S) xyz"));
        Check.same("a refused one takes no number", 11, x.mail.message(0, 9, 0));
    }

    private static void copyToAFullOne() {
        for (String line : new String[] {"t COPY 1 b", "t COPY 1:* b", "t UID COPY 10 b", "t COPY 1:2 a",
            "t COPY 9,10 a", "t UID COPY 1:* a"}) {
            Twins.refused(0, line, FULL);
        }
        Talk x = Talk.after(FULL);
        Check.same("nine and one", "t OK", x.ask(0, "t COPY 10 a"));
        Check.same("ten", 10, x.mail.messages(0));
        Check.same("ten and one", "t NO", x.ask(0, "t COPY 10 a"));
        Check.same("ten and none", "t OK", x.ask(0, "t UID COPY 11:999 a"));
        Check.same("ten", 10, x.mail.messages(0));
        x.then("0 a CREATE c");
        Check.same("none and ten", "t OK", x.ask(0, "t COPY 1:* c"));
        Check.same("ten", 10, x.mail.messages(2));
    }

    /** A place counts once, and one whose message is gone does not count. */
    private static void copyCountsWhatIsCopied() {
        Talk x = Talk.after(FULL);
        Check.same("one place, named often", "t OK", x.ask(0, "t COPY 4,4:4,4,4 a"));
        Talk y = Talk.after(FULL).then("0 a CREATE c", "0 a COPY 1:5 c", "connect 2", "2 c SELECT b",
                "2 c STORE 1:5 (D)", "2 c EXPUNGE");
        Check.same("five of ten are gone", "OK", y.enter(0, "t COPY 1:* c"));
        Check.same("ten", 10, y.mail.messages(2));
        Check.same("numbers go on", 10, y.mail.message(2, 9, 0));
        Talk z = Talk.after("0 a APPEND a () x", "0 a SELECT a", "0 a COPY 1 a", "0 a COPY 1:2 a", "0 a APPEND a () x");
        Check.same("to itself, five and five", "* 10 EXISTS|t OK", z.ask(0, "t COPY 1:5 a"));
        Check.same("to itself, ten and one", "t NO", z.ask(0, "t COPY 1 a"));
    }

    /** "a set (also one in a key) is wrong" */
    private static void wrongSets() {
        String[] lines = {
            "t STORE 3 (S)", "t STORE 0 +(S)", "t STORE 1:3 -(F)", "t STORE 2,3 (S)", "t FETCH 3 FLAGS",
            "t FETCH 0 UID", "t FETCH 2,0 TEXT", "t FETCH *:3 TEXT", "t COPY 3 a", "t COPY 0:2 a", "t SEARCH 3",
            "t SEARCH NOT 0", "t SEARCH OR ALL 3", "t SEARCH (2 (3))", "t UID SEARCH 3", "t UID SEARCH UID 3 3",
            "t SEARCH 2 0",
        };
        for (String line : lines) {
            Twins.refused(0, line, MUCH_TO_TELL);
        }
        for (String line : new String[] {"t STORE * (S)", "t FETCH 1 UID", "t COPY *:* a", "t SEARCH *"}) {
            Twins.refused(0, line, "0 a CREATE b", "0 a SELECT b", "connect 1", "1 b APPEND b (S) x");
        }
    }

    /** "(SELECT and EXAMINE that are answered by NO leave what was selected.)" */
    private static void selectAnsweredByNo() {
        Twins.refused(0, "t SELECT c", MUCH_TO_TELL);
        Twins.refused(0, "t EXAMINE c", MUCH_TO_TELL);
        Twins.refused(0, "t SELECT c", ONLY_TO_READ);
        Twins.refused(0, "t EXAMINE c", ONLY_TO_READ);
        Twins.refused(0, "t SELECT c", NONE_SELECTED);
        Talk x = Talk.after(ONLY_TO_READ);
        Check.same("select", "t NO", x.ask(0, "t SELECT c"));
        Check.same("the view stays", 2, x.view(0));
        Check.same("still to read", "t NO", x.ask(0, "t EXPUNGE"));
        Talk y = Talk.after(MUCH_TO_TELL);
        Check.same("examine", "t NO", y.ask(0, "t EXAMINE c"));
        Check.same("the view stays", 2, y.view(0));
        Check.same("still to write", "OK", y.enter(0, "t STORE 2 (S)"));
    }
}

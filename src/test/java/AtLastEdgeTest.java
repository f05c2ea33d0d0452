/** Promise 3, "At last, for every command but SELECT, EXAMINE, CLOSE and LOGOUT, when a mailbox is selected". */
final class AtLastEdgeTest {
    /** For session 0: place 2 is gone, place 3 has A that was not told, message 4 with S is new; b and d are there. */
    private static final String[] MUCH_TO_TELL = {
        "0 a CREATE b", "0 a CREATE d", "0 a APPEND a () x", "0 a APPEND a (D) y", "0 a APPEND a () z", "0 a SELECT a",
        "connect 1", "1 b SELECT a", "1 b EXPUNGE", "1 b STORE 2 (A)", "1 b APPEND a (S) w",
    };

    public static void main(String[] args) {
        whenAllIsTold();
        whenPlacesAreKept();
        whenNothingIsTold();
        whenNoneIsSelected();
        goneAsThingsStandThen();
        noLineWhenNoneCame();
        fortyPlaces();
        fortyWithRoomForSome();
        otherThanTold();
        flagsOfGoneOnes();
        fetchTextAndTold();
        orderOfTheThree();
        longestReply();
        Check.end();
    }

    /** All three steps after every command that does not keep the places. */
    private static void whenAllIsTold() {
        String[][] lines = {
            {"t NOOP", ""}, {"t EXPUNGE", ""}, {"t CREATE c", ""}, {"t DELETE b", ""}, {"t APPEND b () x", ""},
            {"t COPY 1 b", ""}, {"t COPY 2 b", ""}, {"t UID COPY 99 b", ""}, {"t UID STORE 99 (S)", ""},
            {"t UID STORE 1 ()", "* 1 FETCH ()|"}, {"t UID FETCH 99 TEXT", ""}, {"t UID FETCH 3 UID", "* 3 FETCH 3|"},
            {"t UID SEARCH ALL", "* SEARCH 1 3|"}, {"t UID SEARCH UID 99", "* SEARCH|"},
        };
        for (String[] line : lines) {
            Talk x = Talk.after(MUCH_TO_TELL);
            Check.same(line[0], line[1] + "* 2 EXPUNGE|* 3 EXISTS|* 2 FETCH (A)|t OK", x.ask(0, line[0]));
            Check.same("view after " + line[0], 3, x.view(0));
            Check.same("told once", "t OK", x.ask(0, "t NOOP"));
        }
    }

    /** "unless the command was FETCH, STORE or SEARCH without UID" */
    private static void whenPlacesAreKept() {
        String[][] lines = {
            {"t FETCH 1 UID", "* 1 FETCH 1|"}, {"t FETCH 2 TEXT", ""}, {"t FETCH 1 FLAGS", "* 1 FETCH ()|"},
            {"t STORE 2 (F)", ""}, {"t STORE 1 +()", "* 1 FETCH ()|"}, {"t SEARCH 2", "* SEARCH|"},
            {"t SEARCH UID 3", "* SEARCH 3|"},
        };
        for (String[] line : lines) {
            Talk x = Talk.after(MUCH_TO_TELL);
            Check.same(line[0], line[1] + "* 4 EXISTS|* 3 FETCH (A)|t OK", x.ask(0, line[0]));
            Check.same("view after " + line[0], 4, x.view(0));
            Check.same("the place is still the third", "* 3 FETCH 3|t OK", x.ask(0, "t FETCH 2:3 UID"));
            Check.same("told later", "* 2 EXPUNGE|t OK", x.ask(0, "t NOOP"));
        }
    }

    private static void whenNothingIsTold() {
        Check.same("close", "t OK", Talk.after(MUCH_TO_TELL).ask(0, "t CLOSE"));
        Check.same("logout", "t OK", Talk.after(MUCH_TO_TELL).ask(0, "t LOGOUT"));
        String lines = " EXISTS|* 1 UIDVALIDITY|* 5 UIDNEXT|t OK";
        Check.same("select", "* 3" + lines, Talk.after(MUCH_TO_TELL).ask(0, "t SELECT a"));
        Check.same("examine", "* 3" + lines, Talk.after(MUCH_TO_TELL).ask(0, "t EXAMINE a"));
        Check.same("another", "* 0 EXISTS|* 3 UIDVALIDITY|* 1 UIDNEXT|t OK",
                Talk.after(MUCH_TO_TELL).ask(0, "t SELECT d"));
        Talk refused = Talk.after(MUCH_TO_TELL);
        Check.same("refused", "t NO", refused.ask(0, "t CREATE a"));
        Check.same("told later", "* 2 EXPUNGE|* 3 EXISTS|* 2 FETCH (A)|t OK", refused.ask(0, "t NOOP"));
        Talk none = Talk.after(MUCH_TO_TELL);
        Check.same("no command", "IllegalArgumentException", none.ask(0, "t NOOP "));
        Check.same("told later", "* 2 EXPUNGE|* 3 EXISTS|* 2 FETCH (A)|t OK", none.ask(0, "t NOOP"));
    }

    /** "when a mailbox is selected" */
    private static void whenNoneIsSelected() {
        Talk x = Talk.after(MUCH_TO_TELL).then("0 a CLOSE");
        for (String line : new String[] {"t NOOP", "t APPEND a () x", "t CREATE c", "t DELETE b"}) {
            Check.same(line, "t OK", x.ask(0, line));
            Check.same("view", -1, x.view(0));
        }
        Talk y = Talk.after(MUCH_TO_TELL).then("0 a LOGOUT", "connect 0");
        Check.same("connected again", "t OK", y.ask(0, "t NOOP"));
    }

    /** "for each place in rising order whose message is gone: * n EXPUNGE, n being the place as things stand then" */
    private static void goneAsThingsStandThen() {
        String[][] gone = {
            {"1", "* 1 EXPUNGE|"}, {"5", "* 5 EXPUNGE|"}, {"1,2", "* 1 EXPUNGE|* 1 EXPUNGE|"},
            {"1,3,5", "* 1 EXPUNGE|* 2 EXPUNGE|* 3 EXPUNGE|"}, {"2,3", "* 2 EXPUNGE|* 2 EXPUNGE|"},
            {"4,5", "* 4 EXPUNGE|* 4 EXPUNGE|"},
            {"1:5", "* 1 EXPUNGE|* 1 EXPUNGE|* 1 EXPUNGE|* 1 EXPUNGE|* 1 EXPUNGE|"},
        };
        for (String[] one : gone) {
            Talk x = Talk.after("0 a APPEND a () a", "0 a APPEND a () b", "0 a APPEND a () c", "0 a APPEND a () d",
                    "0 a APPEND a () e", "0 a SELECT a", "connect 1", "1 b SELECT a", "1 b STORE " + one[0] + " (D)");
            Check.same("its own", one[1] + "b OK", x.ask(1, "b EXPUNGE"));
            Check.same("another's", one[1] + "a OK", x.ask(0, "a NOOP"));
            Check.same("out of the view", x.mail.messages(0), x.view(0));
            Check.same("the same places for both", x.ask(1, "t UID SEARCH ALL"), x.ask(0, "t UID SEARCH ALL"));
        }
    }

    /** "and if any came, the line * n EXISTS" */
    private static void noLineWhenNoneCame() {
        Talk x = Talk.after("0 a APPEND a () x", "0 a SELECT a", "connect 1", "1 b SELECT a");
        Check.same("none", "a OK", x.ask(0, "a NOOP"));
        x.then("1 b APPEND a (D) x", "1 b EXPUNGE");
        Check.same("came and went", "a OK", x.ask(0, "a NOOP"));
        x.then("1 b APPEND a (D) x", "1 b APPEND a (S) y", "1 b EXPUNGE", "1 b APPEND a (A) z");
        Check.same("two of three", "* 3 EXISTS|a OK", x.ask(0, "a NOOP"));
        Check.same("in their order, with their flags told", "* 2 FETCH 4|* 3 FETCH 5|a OK",
                x.ask(0, "a FETCH 2:3 UID"));
        Check.same("an empty mailbox", "b OK", Talk.after("0 a SELECT a").ask(0, "b NOOP"));
        Check.same("the first of all", "* 1 EXISTS|b OK", Talk.after("0 a SELECT a").ask(0, "b APPEND a (SD) x"));
    }

    /**
     * Session 1 copies ten messages with D and the text abcdef from b to a, session 0 comes to know them by a
     * command that keeps the places, session 2 takes them away: as often as asked.
     */
    private static Talk withTens(int times) {
        Talk x = Talk.after("0 a CREATE b", "0 a APPEND b (D) abcdef", "connect 1", "1 b SELECT b", "1 b COPY 1 b",
                "1 b COPY 1:2 b", "1 b COPY 1:4 b", "1 b COPY 1:2 b", "connect 2", "0 a SELECT a");
        for (int i = 0; i < times; i++) {
            x.then("1 b COPY 1:* a", "0 a SEARCH ALL", "2 c SELECT a", "2 c CLOSE");
        }
        return x;
    }

    /** "but no more than make 40 places": exactly 40 come, and then none */
    private static void fortyPlaces() {
        Talk x = withTens(3).then("1 b COPY 1:* a");
        Check.same("the fortieth is in", "* SEARCH|* 40 EXISTS|a OK", x.ask(0, "a SEARCH 1"));
        Check.same("view", 40, x.view(0));
        Check.same("last place", "* 40 FETCH 40|a OK", x.ask(0, "a FETCH * UID"));
        Check.same("no such place", "a NO", x.ask(0, "a FETCH 41 UID"));
        x.then("2 c SELECT a", "2 c STORE 1:9 -(D)", "2 c CLOSE", "1 b COPY 1 a");
        Check.same("the next is out", "* SEARCH 31 32 33 34 35 36 37 38 39|* 31 FETCH ()|* 32 FETCH ()|* 33 FETCH ()|"
                + "* 34 FETCH ()|* 35 FETCH ()|* 36 FETCH ()|* 37 FETCH ()|* 38 FETCH ()|* 39 FETCH ()|a OK",
                x.ask(0, "a SEARCH ALL"));
        Check.same("view", 40, x.view(0));
        x.then("0 a NOOP");
        Check.same("it comes when there is room", 10, x.view(0));
        Check.same("and is the last", "* 10 FETCH 41|a OK", x.ask(0, "a FETCH * UID"));
    }

    private static void fortyWithRoomForSome() {
        Talk x = withTens(3).then("1 b COPY 1:8 a", "0 a SEARCH ALL", "2 c SELECT a", "2 c CLOSE", "1 b COPY 1:4 a");
        Check.same("before", 38, x.view(0));
        Check.same("two of four", "* SEARCH|* 40 EXISTS|a OK", x.ask(0, "a SEARCH 1"));
        Check.same("the first two", "* 39 FETCH 39|* 40 FETCH 40|a OK", x.ask(0, "a FETCH 38:* UID"));
        x.then("0 a NOOP");
        Check.same("the others come when there is room", 4, x.view(0));
        Check.same("each once", "* SEARCH 39 40 41 42|a OK", x.ask(0, "a UID SEARCH ALL"));
        Talk y = withTens(3).then("1 b COPY 1:9 a", "0 a SEARCH ALL");
        Check.same("39", 39, y.view(0));
        y.then("1 b COPY 1 a");
        Check.same("40", "* SEARCH|* 40 EXISTS|a OK", y.ask(0, "a SEARCH 1"));
    }

    /** "whose message ... has other flags than told" */
    private static void otherThanTold() {
        Talk x = Talk.after("0 a APPEND a (S) x", "0 a APPEND a () y", "0 a SELECT a", "connect 1", "1 b SELECT a");
        for (String flags : new String[] {"", "A", "SA", "SAFD", "FD", "D", "SD"}) {
            x.then("1 b STORE 1 (" + flags + ")");
            Check.same(flags, "* 1 FETCH (" + flags + ")|a OK", x.ask(0, "a NOOP"));
            Check.same("they are told", "a OK", x.ask(0, "a NOOP"));
        }
        x.then("1 b STORE 1:2 (F)", "1 b STORE 1 (SD)", "1 b STORE 2 ()");
        Check.same("as told again", "a OK", x.ask(0, "a NOOP"));
        Check.same("told by STORE", "* 2 FETCH (D)|a OK", x.ask(0, "a STORE 2 (D)"));
        x.then("1 b NOOP", "1 b STORE 1:2 (A)");
        Check.same("each by its own", "* 2 FETCH (SA)|* 1 FETCH (A)|a OK", x.ask(0, "a STORE 2 +(S)"));
        Check.same("each by its own", "* 2 FETCH (SA)|b OK", x.ask(1, "b NOOP"));
    }

    /** "whose message is not gone": changed, then gone, while the places are kept */
    private static void flagsOfGoneOnes() {
        Talk x = Talk.after("0 a APPEND a () x", "0 a APPEND a () y", "0 a SELECT a", "connect 1", "1 b SELECT a",
                "1 b STORE 1:2 (SD)", "1 b STORE 2 (F)", "1 b EXPUNGE");
        Check.same("gone", "* SEARCH 2|* 2 FETCH (F)|a OK", x.ask(0, "a SEARCH ALL"));
        Check.same("gone", "* 1 EXPUNGE|a OK", x.ask(0, "a NOOP"));
    }

    /** S from FETCH TEXT is told at last when it is other than told; other flags not told come with it. */
    private static void fetchTextAndTold() {
        Talk x = Talk.after("0 a APPEND a () x", "0 a SELECT a", "connect 1", "1 b SELECT a", "1 b STORE 1 (S)");
        Check.same("another gave S", "* 1 FETCH x|* 1 FETCH (S)|a OK", x.ask(0, "a FETCH 1 TEXT"));
        x.then("1 b STORE 1 (AF)");
        Check.same("with the others", "* 1 FETCH x|* 1 FETCH (SAF)|a OK", x.ask(0, "a FETCH 1 TEXT"));
        Check.same("the other session", "* 1 FETCH (SAF)|b OK", x.ask(1, "b NOOP"));
        x.then("1 b STORE 1 -(S)");
        Check.same("S as told", "* 1 FETCH x|a OK", x.ask(0, "a FETCH 1 TEXT"));
        Check.same("S", 7, x.mail.message(0, 0, 1));
    }

    /** Gone ones, then new ones, then flags, the numbers being those after the steps before. */
    private static void orderOfTheThree() {
        Talk x = Talk.after("0 a APPEND a (D) a", "0 a APPEND a () b", "0 a APPEND a (D) c", "0 a APPEND a () d",
                "0 a SELECT a", "connect 1", "1 b SELECT a", "1 b EXPUNGE", "1 b STORE 1:2 (SA)", "1 b APPEND a (F) e",
                "1 b STORE 3 (S)");
        Check.same("noop", "* 1 EXPUNGE|* 2 EXPUNGE|* 3 EXISTS|* 1 FETCH (SA)|* 2 FETCH (SA)|a OK", x.ask(0, "a NOOP"));
        Check.same("all told", "a OK", x.ask(0, "a NOOP"));
    }

    /** Thirty places gone and ten messages with six letters: what is longest to tell is told to its end. */
    private static void longestReply() {
        Talk x = withTens(3).then("1 b COPY 1:* a", "0 a SEARCH 1");
        x.then("0 a UID FETCH 1:* TEXT");
        StringBuilder due = new StringBuilder();
        for (int i = 31; i <= 40; i++) {
            due.append("* ").append(i).append(" FETCH abcdef\n");
        }
        due.append("* 1 EXPUNGE\n".repeat(30));
        for (int i = 1; i <= 10; i++) {
            due.append("* ").append(i).append(" FETCH (SD)\n");
        }
        due.append("a OK");
        Check.same("length", due.length(), x.mail.replied(0));
        for (int i = 0; i < due.length(); i += 7) {
            Check.same("sign " + i, due.charAt(i), x.mail.reply(0, i));
        }
        Check.same("the last sign", 'K', x.mail.reply(0, due.length() - 1));
        Check.same("view", 10, x.mail.view(0));
    }
}

/** Promises 3 and 7: sets, keys, and what is told at last. */
final class ViewTest {
    public static void main(String[] args) {
        sets();
        keys();
        goneKeepTheirPlaces();
        newMessagesCome();
        flagsAreTold();
        refusedTellsNothing();
        fortyPlaces();
        Check.end();
    }

    /** Messages 2, 4, 5 of a, in the view of session 0 at places 1 to 3. */
    private static Talk withNumbers() {
        Talk x = new Talk();
        x.enter(0, "a APPEND a (D) zz");
        x.enter(0, "a APPEND a (F) abc");
        x.enter(0, "a APPEND a (D) zz");
        x.enter(0, "a APPEND a (S) bcd");
        x.enter(0, "a APPEND a () cabab");
        x.enter(0, "a SELECT a");
        x.enter(0, "a EXPUNGE");
        return x;
    }

    private static void sets() {
        Talk x = withNumbers();
        String[][] sets = {
            {"1", "1"}, {"003", "3"}, {"*", "3"}, {"3:1", "1 2 3"}, {"*:2", "2 3"}, {"1,*", "1 3"}, {"2,1,2:2", "1 2"},
            {"UID 1", ""}, {"UID 2", "1"}, {"UID 3,4", "2"}, {"UID *", "3"}, {"UID 0:4", "1 2"}, {"UID 4:0", "1 2"},
            {"UID 999:*", "3"}, {"UID *:3", "2 3"}, {"UID 0", ""}, {"UID 6:999", ""}, {"UID 5,2,5", "1 3"},
        };
        for (String[] set : sets) {
            String due = set[1].isEmpty() ? "" : " " + set[1];
            Check.same(set[0], "* SEARCH" + due + "|a OK", x.ask(0, "a SEARCH " + set[0]));
        }
        Check.same("a set is no UID set behind UID SEARCH", "* SEARCH 4|a OK", x.ask(0, "a UID SEARCH 2"));
    }

    private static void keys() {
        String[][] keys = {
            {"ALL", "1 2 3"}, {"HAS F", "1"}, {"HAS A", ""}, {"TEXT ab", "1 3"}, {"TEXT cabab", "3"},
            {"TEXT cababa", ""}, {"TEXT bab", "3"}, {"TEXT d", "2"}, {"NOT ALL", ""}, {"NOT HAS S", "1 3"},
            {"NOT NOT 2", "2"}, {"OR HAS F HAS S", "1 2"}, {"OR 1 1", "1"}, {"1:2 2:3", "2"}, {"1 2", ""},
            {"OR 1 2 2", "2"}, {"OR 1 (2 3)", "1"}, {"OR NOT 1 UID 2", "1 2 3"}, {"NOT 1 2", "2"},
            {"NOT (1 2)", "1 2 3"},
            {"(ALL) (2,3) 3", "3"}, {"OR OR 1 2 3", "1 2 3"}, {"NOT OR 1 TEXT bc 3", "3"}, {"UID 4 TEXT cd HAS S", "2"},
        };
        Talk x = withNumbers();
        String[] numbers = {"", "2", "4", "5"};
        for (String[] key : keys) {
            if (x.calls > 400) {
                x = withNumbers();
            }
            StringBuilder due = new StringBuilder("* SEARCH");
            StringBuilder dueUid = new StringBuilder("* SEARCH");
            for (String place : key[1].isEmpty() ? new String[0] : key[1].split(" ")) {
                due.append(' ').append(place);
                dueUid.append(' ').append(numbers[Integer.parseInt(place)]);
            }
            Check.same(key[0], due + "|a OK", x.ask(0, "a SEARCH " + key[0]));
            Check.same("UID SEARCH " + key[0], dueUid + "|a OK", x.ask(0, "a UID SEARCH " + key[0]));
        }
    }

    private static Talk withGone() {
        Talk x = new Talk();
        for (int i = 0; i < 4; i++) {
            x.enter(0, "a APPEND a () abc");
        }
        x.enter(0, "a SELECT a");
        x.mail.connect(1);
        x.enter(1, "b SELECT a");
        x.enter(1, "b STORE 1,4 (D)");
        x.enter(1, "b EXPUNGE");
        return x;
    }

    private static void goneKeepTheirPlaces() {
        Talk x = withGone();
        Check.same("view", 4, x.mail.view(0));
        Check.same("fetch", "* 2 FETCH 2|* 3 FETCH 3|a OK", x.ask(0, "a FETCH 1:4 UID"));
        Check.same("store", "* 2 FETCH (A)|a OK", x.ask(0, "a STORE 1,2 (A)"));
        Check.same("all", "* SEARCH 2 3|a OK", x.ask(0, "a SEARCH ALL"));
        Check.same("not", "* SEARCH 3|a OK", x.ask(0, "a SEARCH NOT HAS A"));
        Check.same("a gone place", "* SEARCH|a OK", x.ask(0, "a SEARCH 1"));
        Check.same("a gone flag", "* SEARCH|a OK", x.ask(0, "a SEARCH HAS D"));
        Check.same("a gone text", "* SEARCH 2 3|a OK", x.ask(0, "a SEARCH TEXT abc"));
        Check.same("the last place", "* SEARCH|a OK", x.ask(0, "a SEARCH OR * UID *"));
        Check.same("view", 4, x.mail.view(0));
        String gone = "* 1 EXPUNGE|* 3 EXPUNGE|";
        Check.same("uid fetch", "* 3 FETCH 3|" + gone + "a OK", x.ask(0, "a UID FETCH 3:* UID"));
        Check.same("view", 2, x.mail.view(0));
        Check.same("noop", gone + "a OK", withGone().ask(0, "a NOOP"));
        Check.same("create", gone + "a OK", withGone().ask(0, "a CREATE b"));
        Check.same("expunge", gone + "a OK", withGone().ask(0, "a EXPUNGE"));
        Check.same("copy", gone + "* 3 EXISTS|a OK", withGone().ask(0, "a COPY 1:2 a"));
        Check.same("uid copy", gone + "* 3 EXISTS|a OK", withGone().ask(0, "a UID COPY 3:4 a"));
        Check.same("append", gone + "* 3 EXISTS|a OK", withGone().ask(0, "a APPEND a (D) x"));
        Check.same("uid search", "* SEARCH 2 3|" + gone + "a OK", withGone().ask(0, "a UID SEARCH ALL"));
        Check.same("uid store", "* 3 FETCH (F)|" + gone + "a OK", withGone().ask(0, "a UID STORE 3,4 (F)"));
        Check.same("select", "* 2 EXISTS|* 1 UIDVALIDITY|* 5 UIDNEXT|a OK", withGone().ask(0, "a SELECT a"));
        Check.same("close", "a OK", withGone().ask(0, "a CLOSE"));
        Check.same("logout", "a OK", withGone().ask(0, "a LOGOUT"));
        Check.same("a gone one fills no mailbox", 2, withGone().mail.messages(0));
    }

    private static void newMessagesCome() {
        String[] lines = {
            "a NOOP", "a FETCH 1 UID", "a UID FETCH 1 UID", "a STORE 1 ()", "a SEARCH 1", "a UID SEARCH 1",
            "a CREATE b", "a COPY 1 c", "a EXPUNGE", "a APPEND c () x",
        };
        for (String line : lines) {
            Talk x = new Talk();
            x.enter(0, "a APPEND a () x");
            x.enter(0, "a CREATE c");
            x.enter(0, "a SELECT a");
            x.mail.connect(2);
            x.enter(2, "a APPEND a (D) x");
            x.enter(2, "a APPEND a (S) x");
            Check.same("view", 1, x.mail.view(0));
            boolean expunges = line.equals("a EXPUNGE");
            String reply = x.ask(0, line);
            String due = expunges ? "* 2 EXISTS|a OK" : "* 3 EXISTS|a OK";
            Check.same(line, due, reply.substring(Math.max(0, reply.length() - due.length())));
            Check.same("view", expunges ? 2 : 3, x.mail.view(0));
            Check.same("told with that", "a OK", x.ask(0, "a NOOP"));
        }
    }

    private static void flagsAreTold() {
        Talk x = new Talk();
        x.enter(0, "a APPEND a () x");
        x.enter(0, "a APPEND a (S) x");
        x.enter(0, "a SELECT a");
        x.mail.connect(1);
        x.enter(1, "b SELECT a");
        x.enter(1, "b STORE 1,2 (AF)");
        Check.same("both", "* 1 FETCH (AF)|* 2 FETCH (AF)|a OK", x.ask(0, "a NOOP"));
        Check.same("once", "a OK", x.ask(0, "a NOOP"));
        x.enter(1, "b STORE 1,2 ()");
        Check.same("fetch tells", "* 2 FETCH ()|* 1 FETCH ()|a OK", x.ask(0, "a FETCH 2 FLAGS"));
        x.enter(1, "b STORE 1:2 (D)");
        x.enter(1, "b STORE 1:2 ()");
        Check.same("as told", "a OK", x.ask(0, "a NOOP"));
        x.enter(1, "b STORE 1 (D)");
        x.enter(1, "b STORE 2 (A)");
        Check.same("search knows, and tells at last", "* SEARCH 1|* 1 FETCH (D)|* 2 FETCH (A)|a OK",
                x.ask(0, "a SEARCH HAS D"));
        x.enter(1, "b STORE 1 (SD)");
        x.enter(1, "b STORE 2 (F)");
        x.enter(1, "b APPEND a (A) y");
        x.enter(1, "b EXPUNGE");
        Check.same("gone, new, flags", "* 1 EXPUNGE|* 2 EXISTS|* 1 FETCH (F)|a OK", x.ask(0, "a NOOP"));
    }

    private static void refusedTellsNothing() {
        Talk x = withGone();
        x.enter(1, "b STORE 1 (S)");
        x.enter(1, "b APPEND a () x");
        Check.same("refused", "a NO", x.ask(0, "a DELETE a"));
        Check.same("refused", "a NO", x.ask(0, "a SELECT d"));
        Check.same("view", 4, x.mail.view(0));
        Check.same("told later", "* 1 EXPUNGE|* 3 EXPUNGE|* 3 EXISTS|* 1 FETCH (S)|a OK", x.ask(0, "a NOOP"));
    }

    /** Session 0 sees 38 places when four more come; session 1 fills and empties the mailbox. */
    private static void fortyPlaces() {
        Talk x = new Talk();
        x.enter(0, "a CREATE b");
        x.enter(0, "a APPEND b (D) x");
        x.mail.connect(1);
        x.enter(1, "a SELECT b");
        x.enter(1, "a COPY 1 b");
        x.enter(1, "a COPY 1:2 b");
        x.enter(1, "a COPY 1:4 b");
        x.enter(1, "a COPY 1 a");
        x.enter(0, "a SELECT a");
        x.enter(1, "a COPY 1:5 a");
        x.enter(0, "a FETCH 1 UID");
        Check.same("view", 6, x.mail.view(0));
        x.mail.connect(2);
        for (int i = 0; i < 4; i++) {
            x.enter(2, "a SELECT a");
            x.enter(2, "a CLOSE");
            x.enter(1, "a COPY 1:8 a");
            x.enter(0, "a FETCH 1 UID");
        }
        Check.same("view", 38, x.mail.view(0));
        x.enter(2, "a SELECT a");
        x.enter(2, "a CLOSE");
        x.enter(1, "a COPY 1:4 a");
        x.enter(0, "a FETCH 1 UID");
        Check.same("no more than 40", "* 40 EXISTS\na OK", x.reply(0));
        Check.same("no place for more", "a OK", x.ask(0, "a FETCH 1 UID"));
        Check.same("the last place", "* 40 FETCH 40|a OK", x.ask(0, "a FETCH * UID"));
        Check.same("noop", "OK", x.enter(0, "a NOOP"));
        Check.same("the rest come", 4, x.mail.view(0));
        Check.same("each once", "* 1 FETCH 39|* 2 FETCH 40|* 3 FETCH 41|* 4 FETCH 42|a OK",
                x.ask(0, "a FETCH 1:* UID"));
    }
}

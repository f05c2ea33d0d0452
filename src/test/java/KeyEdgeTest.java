/** Promise 3, the section KEYS, and the line that SEARCH replies. */
final class KeyEdgeTest {
    public static void main(String[] args) {
        all();
        has();
        text();
        sets();
        not();
        or();
        searchOfSeveral();
        emptyView();
        gone();
        Check.end();
    }

    /** S at place 1, A at 2, F at 3, D at 4, all at 5, none at 6; their numbers are 2 to 7. */
    private static Talk flagged() {
        return Talk.after("0 a APPEND a (D) x", "0 a SELECT a", "0 a EXPUNGE", "0 a APPEND a (S) abc",
                "0 a APPEND a (A) aab", "0 a APPEND a (F) cabcab", "0 a APPEND a (D) c", "0 a APPEND a (SAFD) aaab",
                "0 a APPEND a () zzzzzz");
    }

    private static void finds(Talk x, String keys, String due) {
        Check.same(keys, "* SEARCH" + due + "|a OK", x.ask(0, "a SEARCH " + keys));
    }

    /** "ALL always" */
    private static void all() {
        finds(flagged(), "ALL", " 1 2 3 4 5 6");
        Check.same("behind UID the number", "* SEARCH 2 3 4 5 6 7|a OK", flagged().ask(0, "a UID SEARCH ALL"));
    }

    /** "HAS x when the message has that flag", which is not the flag that was told */
    private static void has() {
        Talk x = flagged();
        finds(x, "HAS S", " 1 5");
        finds(x, "HAS A", " 2 5");
        finds(x, "HAS F", " 3 5");
        finds(x, "HAS D", " 4 5");
        finds(x, "HAS S HAS A HAS F HAS D", " 5");
        x.then("connect 1", "1 b SELECT a", "1 b STORE 1 (A)");
        Check.same("as it has them", "* SEARCH 5|* 1 FETCH (A)|a OK", x.ask(0, "a SEARCH HAS S"));
        x.then("1 b STORE 2 (AS)");
        Check.same("as it has them", "* SEARCH 2 5|* 2 FETCH (SA)|a OK", x.ask(0, "a SEARCH HAS S"));
    }

    /** "TEXT t when t is a part of its text" */
    private static void text() {
        Talk x = flagged();
        finds(x, "TEXT abc", " 1 3");
        finds(x, "TEXT ab", " 1 2 3 5");
        finds(x, "TEXT aab", " 2 5");
        finds(x, "TEXT aaab", " 5");
        finds(x, "TEXT aaaab", "");
        finds(x, "TEXT c", " 1 3 4");
        finds(x, "TEXT cab", " 3");
        finds(x, "TEXT cabcab", " 3");
        finds(x, "TEXT bca", " 3");
        finds(x, "TEXT ba", "");
        finds(x, "TEXT cb", "");
        finds(x, "TEXT zzzzzz", " 6");
        finds(x, "TEXT z", " 6");
        finds(x, "TEXT zzzzzy", "");
    }

    /** "a set or UID s when the place is in it" */
    private static void sets() {
        Talk x = flagged();
        finds(x, "2:3", " 2 3");
        finds(x, "UID 2:3", " 1 2");
        finds(x, "1 UID 2", " 1");
        finds(x, "1 UID 1", "");
        finds(x, "6", " 6");
        finds(x, "UID 7", " 6");
    }

    /** "NOT k when k does not": one key alone */
    private static void not() {
        Talk x = flagged();
        finds(x, "NOT ALL", "");
        finds(x, "NOT HAS S", " 2 3 4 6");
        finds(x, "NOT 2:5", " 1 6");
        finds(x, "NOT UID 2", " 2 3 4 5 6");
        finds(x, "NOT NOT HAS S", " 1 5");
        finds(x, "NOT 1 2:3", " 2 3");
        finds(x, "2:3 NOT 3", " 2");
        finds(x, "NOT (1:3 3:5)", " 1 2 4 5 6");
        finds(x, "NOT OR 1:3 5", " 4 6");
    }

    /** "OR k l when k or l does" */
    private static void or() {
        Talk x = flagged();
        finds(x, "OR 1 2", " 1 2");
        finds(x, "OR 2 1", " 1 2");
        finds(x, "OR 3 3", " 3");
        finds(x, "OR HAS S HAS A", " 1 2 5");
        finds(x, "OR 1 NOT ALL", " 1");
        finds(x, "OR NOT ALL 1", " 1");
        finds(x, "OR 1 2 2:3", " 2");
        finds(x, "2:3 OR 1 2", " 2");
        finds(x, "OR OR 1 2 3", " 1 2 3");
        finds(x, "OR 1 OR 2 3", " 1 2 3");
        finds(x, "OR (1:2 2:3) 5", " 2 5");
        finds(x, "OR NOT 1:5 1", " 1 6");
    }

    /** "a search when all its keys do" */
    private static void searchOfSeveral() {
        Talk x = flagged();
        finds(x, "1:3 2:5", " 2 3");
        finds(x, "1:3 2:5 3", " 3");
        finds(x, "1 2", "");
        finds(x, "(1:3 2:5)", " 2 3");
        finds(x, "(1:3) (2:5 (3:6))", " 3");
        finds(x, "((((((((6))))))))", " 6");
        finds(x, "NOT NOT NOT NOT NOT NOT NOT NOT 6", " 6");
        finds(x, "NOT NOT NOT NOT NOT NOT NOT 6", " 1 2 3 4 5");
    }

    private static void emptyView() {
        Talk x = Talk.after("0 a SELECT a");
        finds(x, "ALL", "");
        finds(x, "NOT ALL", "");
        finds(x, "HAS S", "");
        finds(x, "OR TEXT a NOT HAS D", "");
        Check.same("behind UID", "* SEARCH|a OK", x.ask(0, "a UID SEARCH ALL"));
    }

    /** "KEYS hold for a place of the view, its message not being gone" */
    private static void gone() {
        Talk x = flagged().then("connect 1", "1 b SELECT a", "1 b STORE 1 +(D)", "1 b EXPUNGE");
        finds(x, "ALL", " 2 3 6");
        finds(x, "NOT ALL", "");
        finds(x, "HAS D", "");
        finds(x, "HAS S", "");
        finds(x, "NOT HAS A", " 3 6");
        finds(x, "TEXT ab", " 2 3");
        finds(x, "NOT TEXT ab", " 6");
        finds(x, "1", "");
        finds(x, "NOT 1", " 2 3 6");
        finds(x, "UID 2:4", " 2 3");
        finds(x, "NOT UID 2", " 2 3 6");
        finds(x, "OR 1 2", " 2");
        finds(x, "NOT NOT 1", "");
        Check.same("by number, and then they leave the view",
                "* SEARCH 3 4 7|* 1 EXPUNGE|* 3 EXPUNGE|* 3 EXPUNGE|a OK", x.ask(0, "a UID SEARCH ALL"));
        finds(x, "ALL", " 1 2 3");
    }
}

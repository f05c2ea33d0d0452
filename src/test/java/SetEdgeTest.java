/** Promise 3, the section SETS. */
final class SetEdgeTest {
    public static void main(String[] args) {
        placesFromFirstToLast();
        fromTheLesserToTheGreater();
        starIsTheLastPlace();
        emptyViewIsWrong();
        viewOfGoneOnesIsNotEmpty();
        uidSearchTakesPlaces();
        numbersThatARangeCovers();
        starIsTheGreatestNumberOfTheView();
        numbersAreNeverWrong();
        numbersInAnEmptyView();
        numbersOfThreeDigits();
        placesOfTwoDigits();
        Check.end();
    }

    /** Messages 2, 4, 5 of a in the view of session 0, at places 1 to 3. */
    private static Talk numbered() {
        return Talk.after("0 a APPEND a (D) x", "0 a APPEND a () x", "0 a APPEND a (D) x", "0 a APPEND a () x",
                "0 a APPEND a () x", "0 a SELECT a", "0 a EXPUNGE", "0 a CREATE b");
    }

    private static Talk emptyView() {
        return Talk.after("0 a CREATE b", "0 a SELECT a");
    }

    private static void finds(Talk x, String set, String due) {
        Check.same(set, "* SEARCH" + due + "|a OK", x.ask(0, "a SEARCH " + set));
    }

    /** "a point (other than *) is 0 or greater than the number of places": 1 and 3 are in, 0 and 4 are out. */
    private static void placesFromFirstToLast() {
        String[] ends = {" (S)", " FLAGS", " b", ""};
        String[] words = {"STORE ", "FETCH ", "COPY ", "SEARCH "};
        for (int i = 0; i < words.length; i++) {
            for (String in : new String[] {"1", "3", "001", "1:3", "3:1", "1,3", "*", "*:1", "3:*", "*,*"}) {
                Check.same(words[i] + in, "OK", numbered().enter(0, "a " + words[i] + in + ends[i]));
            }
            for (String out : new String[] {"0", "4", "00", "000", "999", "0:1", "1:0", "3:4", "4:3", "*:4", "0:*",
                "1,4", "4,1", "1:3,0", "0,1:3"}) {
                Check.same(words[i] + out, "NO", numbered().enter(0, "a " + words[i] + out + ends[i]));
            }
        }
        for (String key : new String[] {"NOT 0", "OR ALL 4", "OR 4 ALL", "(1 (4))", "1 4", "4 NOT ALL", "HAS S 0"}) {
            Check.same("also one in a key: " + key, "a NO", numbered().ask(0, "a SEARCH " + key));
            Check.same("also one in a key: " + key, "a NO", numbered().ask(0, "a UID SEARCH " + key));
        }
    }

    /** "those from the lesser of its points to the greater one" */
    private static void fromTheLesserToTheGreater() {
        Talk x = numbered();
        finds(x, "1:2", " 1 2");
        finds(x, "2:1", " 1 2");
        finds(x, "2:3", " 2 3");
        finds(x, "3:1", " 1 2 3");
        finds(x, "2:2", " 2");
        finds(x, "3,1", " 1 3");
        finds(x, "2,2,1:2", " 1 2");
    }

    /** "* is the last place" */
    private static void starIsTheLastPlace() {
        Talk x = numbered();
        finds(x, "*", " 3");
        finds(x, "*:2", " 2 3");
        finds(x, "2:*", " 2 3");
        finds(x, "*:*", " 3");
        Talk one = Talk.after("0 a APPEND a () x", "0 a SELECT a");
        finds(one, "*", " 1");
        finds(one, "*:1", " 1");
        Talk gone = numbered().then("connect 1", "1 b SELECT a", "1 b STORE 3 (D)", "1 b EXPUNGE");
        finds(gone, "*", "");
        finds(gone, "2:*", " 2");
        Check.same("the last place stays, though it is gone", 3, gone.view(0));
    }

    /** "When the view is empty ... the set is WRONG" */
    private static void emptyViewIsWrong() {
        String[] lines = {
            "a STORE * (S)", "a STORE 1 (S)", "a FETCH * FLAGS", "a FETCH 1 FLAGS", "a FETCH *:* UID", "a COPY * b",
            "a COPY 1:* b", "a SEARCH *", "a SEARCH 1", "a SEARCH NOT *", "a SEARCH OR ALL *", "a UID SEARCH *",
        };
        for (String line : lines) {
            Check.same(line, "a NO", emptyView().ask(0, line));
        }
        Talk x = emptyView().then("connect 1", "1 a APPEND a () x");
        Check.same("the mailbox is empty no more, the view is", "a NO", x.ask(0, "a FETCH * UID"));
        Check.same("nothing was told", 0, x.view(0));
        Check.same("now it is", "* 1 EXISTS|a OK", x.ask(0, "a NOOP"));
        Check.same("and no more", "* 1 FETCH 1|a OK", x.ask(0, "a FETCH * UID"));
    }

    private static void viewOfGoneOnesIsNotEmpty() {
        Talk x = Talk.after("0 a APPEND a (D) x", "0 a APPEND a (D) x", "0 a SELECT a", "connect 1", "1 a SELECT a",
                "1 a EXPUNGE");
        Check.same("fetch", "a OK", x.ask(0, "a FETCH * UID"));
        Check.same("store", "a OK", x.ask(0, "a STORE 1:2 (S)"));
        Check.same("search", "* SEARCH|a OK", x.ask(0, "a SEARCH NOT 1"));
        Check.same("greater than the number of places", "a NO", x.ask(0, "a FETCH 3 UID"));
        Check.same("copy", "* 1 EXPUNGE|* 1 EXPUNGE|a OK", x.ask(0, "a COPY 1:* a"));
        Check.same("now it is empty", "a NO", x.ask(0, "a FETCH * UID"));
    }

    /** "that of STORE, FETCH or COPY with UID, and that of the key UID; no other" */
    private static void uidSearchTakesPlaces() {
        Talk x = numbered();
        Check.same("a place", "* SEARCH 4|a OK", x.ask(0, "a UID SEARCH 2"));
        Check.same("a number", "* SEARCH 2|a OK", x.ask(0, "a UID SEARCH UID 2"));
        Check.same("a number", "* SEARCH 1|a OK", x.ask(0, "a SEARCH UID 2"));
        Check.same("no such place", "a NO", x.ask(0, "a UID SEARCH 5"));
        Check.same("store by place", "* 2 FETCH (S)|a OK", x.ask(0, "a STORE 2 (S)"));
        Check.same("store by number", "* 1 FETCH (A)|a OK", x.ask(0, "a UID STORE 2 (A)"));
        Check.same("fetch by place", "* 2 FETCH 4|a OK", x.ask(0, "a FETCH 2 UID"));
        Check.same("fetch by number", "* 1 FETCH 2|a OK", x.ask(0, "a UID FETCH 2 UID"));
        x.then("0 a COPY 2 b", "0 a UID COPY 2 b");
        Check.same("copy by place, by number", "1:1:1 2:2:1", x.listed(1));
    }

    /** "the places of those messages of the view whose numbers a range covers" */
    private static void numbersThatARangeCovers() {
        Talk x = numbered();
        String[][] sets = {
            {"1", ""}, {"2", " 1"}, {"3", ""}, {"4", " 2"}, {"5", " 3"}, {"6", ""}, {"2:4", " 1 2"}, {"4:2", " 1 2"},
            {"1:3", " 1"}, {"3:3", ""}, {"0:999", " 1 2 3"}, {"999:0", " 1 2 3"}, {"5,2", " 1 3"}, {"3,6:999", ""},
            {"002,04", " 1 2"},
        };
        for (String[] set : sets) {
            finds(x, "UID " + set[0], set[1]);
        }
        Check.same("in rising order", "* 1 FETCH 2|* 3 FETCH 5|a OK", x.ask(0, "a UID FETCH 5,2,5 UID"));
    }

    /** "* being the greatest number of the view" */
    private static void starIsTheGreatestNumberOfTheView() {
        Talk x = numbered();
        finds(x, "UID *", " 3");
        finds(x, "UID *:4", " 2 3");
        finds(x, "UID 6:*", " 3");
        finds(x, "UID 999:*", " 3");
        finds(x, "UID *:0", " 1 2 3");
        x.then("connect 1", "1 b APPEND a () x");
        Check.same("of the view, not of the mailbox", "* 3 FETCH 5|* 4 EXISTS|a OK", x.ask(0, "a UID FETCH * UID"));
        x.then("1 b SELECT a", "1 b UID STORE 6 (D)", "1 b EXPUNGE");
        finds(x, "UID *", "");
        finds(x, "UID 5:*", " 3");
        finds(x, "UID 999:*", "");
        Talk one = Talk.after("0 a APPEND a (D) x", "0 a APPEND a (D) x", "0 a APPEND a () x", "0 a SELECT a",
                "0 a EXPUNGE");
        finds(one, "UID *", " 1");
        finds(one, "UID 1", "");
        finds(one, "UID 4:*", " 1");
    }

    /** "it is never wrong" */
    private static void numbersAreNeverWrong() {
        for (String set : new String[] {"0", "1", "6", "999", "000", "0:1", "6:999", "0,999"}) {
            Check.same("store " + set, "a OK", numbered().ask(0, "a UID STORE " + set + " (S)"));
            Check.same("fetch " + set, "a OK", numbered().ask(0, "a UID FETCH " + set + " TEXT"));
            Check.same("copy " + set, "a OK", numbered().ask(0, "a UID COPY " + set + " b"));
            Check.same("search " + set, "* SEARCH|a OK", numbered().ask(0, "a SEARCH UID " + set));
        }
    }

    /** "and has nothing in it when the view is empty" */
    private static void numbersInAnEmptyView() {
        for (String set : new String[] {"*", "1", "0", "1:*", "*:*", "0:999"}) {
            Check.same("store " + set, "a OK", emptyView().ask(0, "a UID STORE " + set + " (S)"));
            Check.same("fetch " + set, "a OK", emptyView().ask(0, "a UID FETCH " + set + " TEXT"));
            Check.same("copy " + set, "a OK", emptyView().ask(0, "a UID COPY " + set + " b"));
            Check.same("search " + set, "* SEARCH|a OK", emptyView().ask(0, "a SEARCH UID " + set));
            Check.same("not " + set, "* SEARCH|a OK", emptyView().ask(0, "a SEARCH NOT UID " + set));
        }
        Talk x = emptyView().then("connect 1", "1 b APPEND a () x");
        Check.same("empty until it is told", "* 1 EXISTS|a OK", x.ask(0, "a UID FETCH 1:* UID"));
        Check.same("then not", "* 1 FETCH 1|a OK", x.ask(0, "a UID FETCH 1:* UID"));
    }

    /** Session 1 fills a with ten messages again and again, and session 0 takes them away: numbers above 100. */
    private static void numbersOfThreeDigits() {
        Talk x = Talk.after("0 a CREATE b", "0 a APPEND b (D) x", "connect 1", "1 b SELECT b", "1 b COPY 1 b",
                "1 b COPY 1:2 b", "1 b COPY 1:4 b", "1 b COPY 1:2 b", "0 a SELECT a");
        for (int i = 0; i < 10; i++) {
            x.then("1 b COPY 1:* a", "0 a EXPUNGE");
        }
        x.then("1 b COPY 1:3 a", "0 a NOOP");
        Check.same("listed", "101:8:1 102:8:1 103:8:1", x.listed(0));
        Check.same("fetch", "* 1 FETCH 101|* 3 FETCH 103|a OK", x.ask(0, "a UID FETCH 103,100,101,10,1 UID"));
        Check.same("search", "* SEARCH 101 102|a OK", x.ask(0, "a UID SEARCH UID 99:102"));
        Check.same("next", "* 3 EXISTS|* 1 UIDVALIDITY|* 104 UIDNEXT|a OK", x.ask(0, "a SELECT a"));
    }

    /** Ten places: 10 and 1 are two places, 11 is out. */
    private static void placesOfTwoDigits() {
        Talk x = Talk.after("0 a APPEND a () x", "0 a SELECT a", "0 a COPY 1 a", "0 a COPY 1:2 a", "0 a COPY 1:4 a",
                "0 a COPY 1:2 a");
        Check.same("the tenth", "* 10 FETCH (F)|a OK", x.ask(0, "a STORE 10 (F)"));
        finds(x, "9:10", " 9 10");
        finds(x, "010,001", " 1 10");
        finds(x, "HAS F", " 10");
        Check.same("the eleventh", "a NO", x.ask(0, "a FETCH 11 UID"));
        Check.same("the hundredth", "a NO", x.ask(0, "a FETCH 100 UID"));
    }
}

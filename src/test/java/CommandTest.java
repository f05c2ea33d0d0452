/** Promise 3: what each command does and replies, and what is answered by NO. */
final class CommandTest {
    public static void main(String[] args) {
        mailboxes();
        selecting();
        append();
        closeAndExpunge();
        store();
        fetch();
        copy();
        refusals();
        Check.end();
    }

    private static Talk withThree() {
        Talk x = new Talk();
        x.enter(0, "a APPEND a (F) abc");
        x.enter(0, "a APPEND a (S) bcd");
        x.enter(0, "a APPEND a () cab");
        x.enter(0, "a SELECT a");
        return x;
    }

    private static void mailboxes() {
        Talk x = new Talk();
        Check.same("noop", "n OK", x.ask(0, "n NOOP"));
        Check.same("create one that is there", "n NO", x.ask(0, "n CREATE a"));
        Check.same("delete one that is not", "n NO", x.ask(0, "n DELETE d"));
        Check.same("create", "n OK", x.ask(0, "n CREATE d"));
        Check.same("messages", 0, x.mail.messages(3));
        Check.same("create", "n OK", x.ask(0, "n CREATE b"));
        Check.same("validities in order", "* 0 EXISTS|* 2 UIDVALIDITY|* 1 UIDNEXT|n OK", x.ask(0, "n SELECT d"));
        Check.same("validities in order", "* 0 EXISTS|* 3 UIDVALIDITY|* 1 UIDNEXT|n OK", x.ask(0, "n SELECT b"));
        Check.same("delete the selected one", "n NO", x.ask(0, "n DELETE b"));
        Check.same("delete another", "n OK", x.ask(0, "n DELETE d"));
        Check.same("messages", -1, x.mail.messages(3));
        x.mail.connect(1);
        Check.same("selected by another", "n NO", x.ask(1, "n DELETE b"));
        Check.same("select one that is gone", "n NO", x.ask(1, "n SELECT d"));
        Check.same("create again", "n OK", x.ask(1, "n CREATE d"));
        Check.same("the next validity", "* 0 EXISTS|* 4 UIDVALIDITY|* 1 UIDNEXT|n OK", x.ask(1, "n EXAMINE d"));
        Check.same("examined counts too", "n NO", x.ask(0, "n DELETE d"));
    }

    private static void selecting() {
        Talk x = withThree();
        Check.same("a refused select", "t NO", x.ask(0, "t SELECT b"));
        Check.same("leaves what was selected", 3, x.mail.view(0));
        Check.same("a refused examine", "t NO", x.ask(0, "t EXAMINE c"));
        Check.same("leaves it to write", "OK", x.enter(0, "t STORE 2 (AD)"));
        x.enter(0, "t CREATE b");
        Check.same("another", "* 0 EXISTS|* 2 UIDVALIDITY|* 1 UIDNEXT|t OK", x.ask(0, "t SELECT b"));
        Check.same("view", 0, x.mail.view(0));
        Check.same("nothing was expunged", "1:4:3 2:10:3 3:0:3", x.listed(0));
        Check.same("examine", "* 3 EXISTS|* 1 UIDVALIDITY|* 4 UIDNEXT|t OK", x.ask(0, "t EXAMINE a"));
        Check.same("only to read", "t NO", x.ask(0, "t EXPUNGE"));
        Check.same("only to read", "t NO", x.ask(0, "t STORE 1 (D)"));
        Check.same("only to read", "t NO", x.ask(0, "t UID STORE 99 (D)"));
        Check.same("select again", "* 3 EXISTS|* 1 UIDVALIDITY|* 4 UIDNEXT|t OK", x.ask(0, "t SELECT a"));
        Check.same("to write", "* 2 EXPUNGE|t OK", x.ask(0, "t EXPUNGE"));
    }

    private static void append() {
        Talk x = new Talk();
        Check.same("to none", "a NO", x.ask(0, "a APPEND b () x"));
        Check.same("append", "a OK", x.ask(0, "a APPEND a (DSD) xyzxyz"));
        x.enter(0, "a SELECT a");
        Check.same("to the selected one", "* 2 EXISTS|a OK", x.ask(0, "a APPEND a () y"));
        for (int i = 3; i <= 10; i++) {
            Check.same("append", "OK", x.enter(0, "a APPEND a () y"));
        }
        Check.same("an eleventh", "a NO", x.ask(0, "a APPEND a () y"));
        Check.same("messages", 10, x.mail.messages(0));
        Check.same("view", 10, x.mail.view(0));
        x.enter(0, "a EXPUNGE");
        Check.same("numbers are not given twice", "* 10 EXISTS|a OK", x.ask(0, "a APPEND a () y"));
        Check.same("number", 11, x.mail.message(0, 9, 0));
    }

    private static void closeAndExpunge() {
        Talk x = withThree();
        x.enter(0, "a STORE 1,3 +(D)");
        Check.same("places as things stand", "* 1 EXPUNGE|* 2 EXPUNGE|a OK", x.ask(0, "a EXPUNGE"));
        Check.same("left", "2:1:3", x.listed(0));
        Check.same("none left to expunge", "a OK", x.ask(0, "a EXPUNGE"));
        x.enter(0, "a STORE 1 (D)");
        x.enter(0, "a EXAMINE a");
        Check.same("close", "a OK", x.ask(0, "a CLOSE"));
        Check.same("takes nothing when it is read", "2:8:3", x.listed(0));
        Check.same("none selected", -1, x.mail.view(0));
        Check.same("none to close", "a NO", x.ask(0, "a CLOSE"));
        x.enter(0, "a SELECT a");
        Check.same("close tells nothing", "a OK", x.ask(0, "a CLOSE"));
        Check.same("takes all with D", 0, x.mail.messages(0));
        Check.same("none selected", -1, x.mail.view(0));
    }

    private static void store() {
        Talk x = withThree();
        Check.same("alone", "* 1 FETCH (AD)|* 3 FETCH (AD)|s OK", x.ask(0, "s STORE 3,1 (DA)"));
        Check.same("besides", "* 1 FETCH (SAFD)|* 2 FETCH (SF)|* 3 FETCH (SAFD)|s OK",
                x.ask(0, "s STORE 1:* +(SF)"));
        Check.same("no more", "* 2 FETCH (F)|s OK", x.ask(0, "s UID STORE 2 -(SD)"));
        Check.same("none", "* 3 FETCH ()|s OK", x.ask(0, "s STORE * ()"));
        Check.same("the same", "* 3 FETCH ()|s OK", x.ask(0, "s STORE 3,3:3,* -(S)"));
        Check.same("place, not number", "1:15:3 2:4:3 3:0:3", x.listed(0));
        x.enter(0, "s STORE 1 (D)");
        x.enter(0, "s EXPUNGE");
        Check.same("by number", "* 2 FETCH (A)|s OK", x.ask(0, "s UID STORE 3 (A)"));
        Check.same("no such number", "s OK", x.ask(0, "s UID STORE 1 (A)"));
        Check.same("by place", "* 2 FETCH (F)|s OK", x.ask(0, "s STORE 2 (F)"));
    }

    private static void fetch() {
        Talk x = withThree();
        Check.same("flags", "* 1 FETCH (F)|* 2 FETCH (S)|* 3 FETCH ()|f OK", x.ask(0, "f FETCH 3:1 FLAGS"));
        Check.same("numbers", "* 2 FETCH 2|f OK", x.ask(0, "f UID FETCH 2 UID"));
        Check.same("texts", "* 1 FETCH abc|* 2 FETCH bcd|* 1 FETCH (SF)|f OK", x.ask(0, "f FETCH 2,1 TEXT"));
        Check.same("seen already", "* 1 FETCH abc|f OK", x.ask(0, "f FETCH 1 TEXT"));
        x.enter(0, "f EXAMINE a");
        Check.same("only to read", "* 3 FETCH cab|f OK", x.ask(0, "f FETCH 3 TEXT"));
        Check.same("flags", "1:5:3 2:1:3 3:0:3", x.listed(0));
        x.mail.connect(1);
        x.enter(1, "g SELECT a");
        x.enter(1, "g STORE 1,2 -(S)");
        x.enter(1, "g STORE 3 +(S)");
        x.enter(0, "f SELECT a");
        x.enter(1, "g STORE 2 (S)");
        x.enter(1, "g STORE 3 (SA)");
        Check.same("only what is not told", "* 3 FETCH cab|* 2 FETCH (S)|* 3 FETCH (SA)|f OK",
                x.ask(0, "f FETCH 3 TEXT"));
        x.enter(1, "g STORE 3 (A)");
        Check.same("S again, as told", "* 3 FETCH cab|f OK", x.ask(0, "f FETCH 3 TEXT"));
        Check.same("S again", 3, x.mail.message(0, 2, 1));
    }

    private static void copy() {
        Talk x = withThree();
        x.enter(0, "c CREATE b");
        Check.same("in rising order", "c OK", x.ask(0, "c COPY 3,1 b"));
        Check.same("copies", "1:4:3 2:0:3", x.listed(1));
        Check.same("to itself", "* 5 EXISTS|c OK", x.ask(0, "c UID COPY 2:99 a"));
        Check.same("copies", "1:4:3 2:1:3 3:0:3 4:1:3 5:0:3", x.listed(0));
        Check.same("text", "* 5 FETCH cab|* 5 FETCH (S)|c OK", x.ask(0, "c FETCH 5 TEXT"));
        Check.same("its own flags", 0, x.mail.message(0, 2, 1));
        Check.same("to none", "c NO", x.ask(0, "c COPY 1 c"));
        Check.same("ten", "* 10 EXISTS|c OK", x.ask(0, "c COPY 1:* a"));
        Check.same("eleven", "c NO", x.ask(0, "c COPY 1 a"));
        Check.same("nothing to a full one", "c OK", x.ask(0, "c UID COPY 77 a"));
        Check.same("all or none", "c NO", x.ask(0, "c COPY 1:9 b"));
        Check.same("messages", 2, x.mail.messages(1));
        x.enter(0, "c EXAMINE a");
        Check.same("to read is enough", "c OK", x.ask(0, "c COPY 1:8 b"));
        Check.same("messages", 10, x.mail.messages(1));
        x.mail.connect(1);
        x.enter(1, "d SELECT a");
        x.enter(1, "d STORE 1:9 +(D)");
        x.enter(1, "d EXPUNGE");
        x.enter(1, "d CREATE c");
        Check.same("gone ones are not copied", "OK", x.enter(0, "c COPY 1:* c"));
        Check.same("messages", 1, x.mail.messages(2));
    }

    private static void refusals() {
        Talk x = new Talk();
        x.enter(0, "a APPEND a (D) abc");
        String[] needSelected = {
            "a CLOSE", "a EXPUNGE", "a STORE 1 (S)", "a FETCH 1 UID", "a COPY 1 a", "a SEARCH ALL",
            "a UID STORE 1 (S)", "a UID FETCH 1 UID", "a UID COPY 1 a", "a UID SEARCH ALL",
        };
        for (String line : needSelected) {
            Check.same(line, "a NO", x.ask(0, line));
        }
        x.enter(0, "a SELECT a");
        String[] wrongSets = {
            "a STORE 2 (S)", "a STORE 0 (S)", "a FETCH 1,2 UID", "a FETCH 0:* UID", "a FETCH *:2 UID", "a COPY 000 a",
            "a SEARCH 2", "a SEARCH OR ALL 2", "a SEARCH NOT NOT 0", "a SEARCH (HAS S (2))", "a UID SEARCH 999",
            "a UID SEARCH NOT ALL 2", "a SEARCH UID 2 5",
        };
        for (String line : wrongSets) {
            Check.same(line, "a NO", x.ask(0, line));
        }
        Check.same("nothing is done", "1:8:3", x.listed(0));
        x.enter(0, "a EXPUNGE");
        String[] emptyView = {"a STORE * (S)", "a FETCH 1 UID", "a COPY *:* a", "a SEARCH *", "a SEARCH NOT *"};
        for (String line : emptyView) {
            Check.same(line, "a NO", x.ask(0, line));
        }
        Check.same("never wrong", "a OK", x.ask(0, "a UID STORE * (S)"));
        Check.same("never wrong", "* SEARCH|a OK", x.ask(0, "a SEARCH UID *"));
    }
}

/** Promise 3, the section COMMANDS: sign by sign, the last that is still in and the first that is out. */
final class LineEdgeTest {
    private static final String NO_COMMAND = "IllegalArgumentException";

    /** Three messages in the view of session 0; b is there too. */
    private static final String[] THREE = {
        "0 a CREATE b", "0 a APPEND a () x", "0 a APPEND a () x", "0 a APPEND a () x", "0 a SELECT a",
    };

    /** Each form of a command and of a key, in its shortest. */
    private static final String[] FORMS = {
        "a NOOP", "a CLOSE", "a EXPUNGE", "a LOGOUT", "a CREATE c", "a DELETE b", "a SELECT b", "a EXAMINE b",
        "a APPEND b () x", "a STORE 1 ()", "a STORE 1 +()", "a STORE 1 -()", "a FETCH 1 FLAGS", "a FETCH 1 UID",
        "a FETCH 1 TEXT", "a COPY 1 b", "a SEARCH ALL", "a UID STORE 1 ()", "a UID STORE 1 +()", "a UID STORE 1 -()",
        "a UID FETCH 1 FLAGS", "a UID FETCH 1 UID", "a UID FETCH 1 TEXT", "a UID COPY 1 b", "a UID SEARCH ALL",
        "a SEARCH HAS S", "a SEARCH TEXT x", "a SEARCH UID 1", "a SEARCH 1", "a SEARCH NOT 1", "a SEARCH OR 1 2",
        "a SEARCH (1)",
    };

    public static void main(String[] args) {
        tags();
        wordsAsWritten();
        blanks();
        uidBeforeTheLastEight();
        mailboxNames();
        flags();
        changes();
        texts();
        points();
        ranges();
        searches();
        keysInEight();
        keysSideBySide();
        noCommandComesBeforeNo();
        Check.end();
    }

    private static String answer(String line) {
        return Talk.after(THREE).enter(0, line);
    }

    private static void isCommand(String line) {
        Check.same(line, "OK", answer(line));
    }

    private static void isNone(String line) {
        Check.same(line, NO_COMMAND, answer(line));
    }

    private static void isCommandWhen(boolean in, String line) {
        Check.same(line, in ? "OK" : NO_COMMAND, answer(line));
    }

    /** "A tag is one or two of a .. z, 0 .. 9." */
    private static void tags() {
        for (char sign = 32; sign < 127; sign++) {
            boolean in = sign >= 'a' && sign <= 'z' || sign >= '0' && sign <= '9';
            isCommandWhen(in, sign + " NOOP");
            isCommandWhen(in, "a" + sign + " NOOP");
            isCommandWhen(in, sign + "0 NOOP");
            isNone("ab" + sign + " NOOP");
        }
        isNone(" NOOP");
        isNone("NOOP");
    }

    /** "words as written": a word with one letter small, or left out, is none, nor is one that breaks off. */
    private static void wordsAsWritten() {
        for (String form : FORMS) {
            isCommand(form);
            for (int i = 0; i < form.length(); i++) {
                char sign = form.charAt(i);
                if (sign >= 'A' && sign <= 'Z') {
                    isNone(form.substring(0, i) + (char) (sign + 32) + form.substring(i + 1));
                    isNone(form.substring(0, i) + form.substring(i + 1));
                }
                isNone(form.substring(0, i));
            }
        }
    }

    /** "A word is followed by one blank where something comes behind it; there are no other blanks." */
    private static void blanks() {
        for (String form : FORMS) {
            for (int i = 0; i < form.length(); i++) {
                if (form.charAt(i) == ' ') {
                    isNone(form.substring(0, i) + form.substring(i + 1));
                    isNone(form.substring(0, i) + " " + form.substring(i));
                }
            }
            isNone(" " + form);
            isNone(form + " ");
            isNone(form + " a");
        }
        isNone("a APPEND b ( ) x");
        isNone("a APPEND b (S A) x");
        isNone("a STORE 1 + ()");
        isNone("a STORE 1 ( )");
        isNone("a FETCH 1, 2 UID");
        isNone("a FETCH 1 :2 UID");
        isNone("a SEARCH ( 1)");
        isNone("a SEARCH (1 )");
        isNone("a SEARCH (1)(2)");
    }

    /** "and the last eight also with UID and a blank before them" */
    private static void uidBeforeTheLastEight() {
        for (int i = 0; i < 9; i++) {
            isNone("a UID " + FORMS[i].substring(2));
        }
        for (int i = 9; i < 17; i++) {
            isCommand("a UID " + FORMS[i].substring(2));
            isNone("a UID UID " + FORMS[i].substring(2));
        }
        isNone("UID FETCH 1 UID");
    }

    /** "m a mailbox's name": a .. d */
    private static void mailboxNames() {
        String[] before = {"CREATE ", "DELETE ", "SELECT ", "EXAMINE ", "APPEND ", "COPY 1 "};
        for (String word : before) {
            for (char sign = 32; sign < 127; sign++) {
                String answer = answer("a " + word + sign + (word.equals("APPEND ") ? " () x" : ""));
                boolean there = sign == 'a' || sign == 'b';
                boolean goesWell = word.equals("CREATE ") ? !there : word.equals("DELETE ") ? sign == 'b' : there;
                String due = sign < 'a' || sign > 'd' ? NO_COMMAND : goesWell ? "OK" : "NO";
                Check.same(word + sign, due, answer);
            }
        }
    }

    /** "f FLAGS: a bracket (, any of S, A, F, D in any number and order, and )" */
    private static void flags() {
        for (char sign = 32; sign < 127; sign++) {
            boolean in = "SAFD".indexOf(sign) >= 0;
            isCommandWhen(in, "a APPEND a (" + sign + ") x");
            isCommandWhen(in, "a STORE 1 +(A" + sign + ")");
            isCommandWhen(in, "a SEARCH HAS " + sign);
        }
        Talk x = Talk.after("0 a APPEND a () x", "0 a APPEND a (DFAS) x");
        x.then("0 a APPEND a (" + "D".repeat(32) + "A) x");
        Check.same("none, all, and as many as a line of 48 takes", "1:0:1 2:15:1 3:10:1", x.listed(0));
        isNone("a APPEND a S) x");
        isNone("a APPEND a (S x");
        isNone("a APPEND a S x");
        isNone("a APPEND a ((S) x");
        isNone("a APPEND a (S)) x");
        isNone("a APPEND a  x");
        isNone("a STORE 1 (S");
        isNone("a STORE 1 S)");
        isNone("a SEARCH HAS SA");
        isNone("a SEARCH HAS ");
    }

    /** "STORE s f, STORE s +f, STORE s -f" */
    private static void changes() {
        for (char sign = 32; sign < 127; sign++) {
            isCommandWhen(sign == '+' || sign == '-', "a STORE 1 " + sign + "(S)");
        }
        isNone("a STORE 1 ++(S)");
        isNone("a STORE 1 +-(S)");
        isNone("a STORE 1 (S)+");
        isNone("a APPEND a +(S) x");
    }

    /** "a TEXT of 1 to 6 letters a .. z", "TEXT t (t 1 to 6 letters here, too)" */
    private static void texts() {
        String[] before = {"a APPEND a () ", "a SEARCH TEXT "};
        for (String start : before) {
            for (char sign = 32; sign < 127; sign++) {
                boolean in = sign >= 'a' && sign <= 'z';
                isCommandWhen(in, start + sign);
                isCommandWhen(in, start + "abcde" + sign);
                isNone(start + "abcdef" + sign);
            }
            isNone(start);
        }
    }

    /** "a point * or a number of one to three digits" */
    private static void points() {
        for (char sign = 32; sign < 127; sign++) {
            boolean digit = sign >= '0' && sign <= '9';
            isCommandWhen(digit || sign == '*', "a UID FETCH " + sign + " UID");
            isCommandWhen(digit, "a UID FETCH 1" + sign + " UID");
            isCommandWhen(digit, "a UID FETCH 99" + sign + " UID");
            isNone("a UID FETCH 000" + sign + " UID");
            isNone("a UID FETCH *" + sign + " UID");
        }
        isNone("a UID FETCH  UID");
        isCommand("a FETCH 003 UID");
        isNone("a FETCH 0003 UID");
        isNone("a SEARCH 0003");
        isNone("a SEARCH UID 0003");
    }

    /** "one or more RANGES with commas between them, a range being a POINT or two with : between them" */
    private static void ranges() {
        for (char sign = 33; sign < 127; sign++) {
            boolean digit = sign >= '0' && sign <= '9';
            isCommandWhen(sign == ',' || sign == ':' || digit, "a UID FETCH 2" + sign + "3 UID");
        }
        isCommand("a SEARCH " + "1,".repeat(19) + "3");
        isCommand("a SEARCH 1:2,*:*,3:*,*:1,2,*");
        String[] wrong = {"1:2:3", "1:", ":1", "1::2", ",1", "1,", "1,,2", ":", ",", "1:,2", "1,:2", "1-2"};
        for (String set : wrong) {
            isNone("a FETCH " + set + " UID");
            isNone("a UID FETCH " + set + " UID");
            isNone("a STORE " + set + " (S)");
            isNone("a COPY " + set + " b");
            isNone("a SEARCH " + set);
            isNone("a SEARCH UID " + set);
        }
    }

    /** "a SEARCH: one or more KEYS with a blank between two" */
    private static void searches() {
        isCommand("a SEARCH " + "1 ".repeat(19) + "3");
        isCommand("a SEARCH " + "ALL ".repeat(9) + "1:3");
        isCommand("a SEARCH (1 2 3) (1) ALL");
        isNone("a SEARCH");
        isNone("a SEARCH ");
        isNone("a SEARCH ()");
        isNone("a SEARCH 1 ()");
        isNone("a SEARCH ALL,1");
        isNone("a SEARCH 1 OR 2");
        isNone("a SEARCH OR 1");
        isNone("a SEARCH OR NOT 1");
        isNone("a SEARCH NOT");
        isNone("a SEARCH NOT NOT");
        isNone("a SEARCH (1");
        isNone("a SEARCH 1)");
        isNone("a SEARCH (OR 1) 2");
        isNone("a SEARCH (NOT) 2");
    }

    /** "A key lies in at most eight others (with one more the line is no command)." */
    private static void keysInEight() {
        String eight = "((((((((";
        String behind = "))))))))";
        String[] keys = {"ALL", "HAS S", "TEXT x", "UID 1", "1"};
        for (String key : keys) {
            isCommand("a SEARCH " + eight + key + behind);
            isNone("a SEARCH (" + eight + key + behind + ")");
        }
        isCommand("a SEARCH " + "NOT ".repeat(8) + "1");
        isNone("a SEARCH " + "NOT ".repeat(9) + "1");
        isNone("a SEARCH " + eight + "NOT 1" + behind);
        isNone("a SEARCH " + eight + "OR 1 1" + behind);
        isNone("a SEARCH " + eight + "1 (1)" + behind);
        isNone("a SEARCH " + eight + "(1) 1" + behind);
        isNone("a SEARCH " + "NOT ".repeat(9));
        isNone("a SEARCH (" + eight + behind + ")");
        isNone("a SEARCH NOT " + eight + "1" + behind);
        isNone("a SEARCH OR " + eight + "1" + behind + " 1");
        isNone("a SEARCH OR 1 " + eight + "1" + behind);
        isNone("a UID SEARCH (" + eight + "1" + behind + ")");
        isCommand("a UID SEARCH " + eight + "1" + behind);
    }

    /** The same with NOT, OR and brackets among one another, and with keys that stand beside one that lies deep. */
    private static void keysSideBySide() {
        isCommand("a SEARCH OR OR OR OR OR OR ((1)) 1 1 1 1 1 1");
        isNone("a SEARCH OR OR OR OR OR OR (((1))) 1 1 1 1 1 1");
        isCommand("a SEARCH OR 1 OR 1 OR 1 OR 1 OR 1 OR 1 ((1))");
        isNone("a SEARCH OR 1 OR 1 OR 1 OR 1 OR 1 OR 1 (((1)))");
        isCommand("a SEARCH (NOT (NOT (NOT (NOT 1))))");
        isNone("a SEARCH (NOT (NOT (NOT (NOT (1)))))");
        isCommand("a SEARCH ((((((((1)))))))) ((((((((1))))))))");
        isCommand("a SEARCH NOT NOT NOT NOT NOT NOT NOT NOT 1 (1)");
        isCommand("a SEARCH OR (((((((1))))))) (((((((1)))))))");
        isCommand("a SEARCH ((((((((1 2 3) 1) (2)) 3)))))");
    }

    /** A line that is no command throws also where NO would be due for what it begins with. */
    private static void noCommandComesBeforeNo() {
        isNone("a FETCH 9 UIDS");
        isNone("a STORE 0 (X)");
        isNone("a SEARCH 9 OR");
        isNone("a CREATE a ");
        isNone("a DELETE aa");
        isNone("a SELECT d d");
        isNone("a COPY 9 e");
        Check.same("none selected", NO_COMMAND, new Talk().enter(0, "a EXPUNGE a"));
        Check.same("none selected", NO_COMMAND, new Talk().enter(0, "a FETCH 1 uid"));
    }
}

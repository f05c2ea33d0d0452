/** Promise 2. */
final class TypeTest {
    private static final String FULL = "a SEARCH ALL ALL ALL ALL ALL ALL ALL ALL ALL ALL";

    public static void main(String[] args) {
        order();
        wrongCalls();
        fullLine();
        Check.end();
    }

    private static void order() {
        Talk x = new Talk();
        Check.same("lowest byte first", true, x.mail.type(0, 'q' | ' ' << 8 | 'N' << 16 | 'O' << 24));
        Check.same("nothing", true, x.mail.type(0, 0));
        Check.same("nothing behind a 0", true, x.mail.type(0, 0x7F00FF00));
        Check.same("up to the 0", true, x.mail.type(0, 'O' | 'P' << 8 | 0x01000000));
        Check.same("enter", 0, x.mail.enter(0));
        Check.same("reply", "q OK", x.reply(0));
        x.mail.connect(1);
        x.type(0, "a NO");
        x.type(1, "b CREATE b");
        x.type(0, "OP");
        Check.same("a line of its own", "OK", x.enter(1, ""));
        Check.same("a line of its own", "OK", x.enter(0, ""));
        Check.same("reply", "a OK", x.reply(0));
        Check.same("reply", "b OK", x.reply(1));
    }

    private static void wrongCalls() {
        Talk x = new Talk();
        int[] nobody = {-1, 3, Integer.MAX_VALUE, Integer.MIN_VALUE};
        for (int session : nobody) {
            Check.same("session " + session, "IndexOutOfBoundsException",
                    Check.thrown(() -> x.mail.type(session, 31)));
        }
        Check.same("not connected", "IllegalStateException", Check.thrown(() -> x.mail.type(1, 31)));
        x.type(0, "a N");
        int[] bad = {31, 127, 10, 0x1F414141, 0x417F4141, 0x0080, 0xFF000000 | 0x414141, -1, 0x411F41, 1};
        for (int four : bad) {
            Check.same("type " + four, "IllegalArgumentException", Check.thrown(() -> x.mail.type(0, four)));
        }
        x.type(0, "OOP");
        Check.same("nothing was put", "OK", x.enter(0, ""));
        Check.same("32 and 126 may stand", true, x.mail.type(0, 32 | 126 << 8));
        Check.same("but are no command", "IllegalArgumentException", x.enter(0, ""));
    }

    private static void fullLine() {
        Talk x = new Talk();
        x.type(0, FULL.substring(0, 46));
        Check.same("49", false, x.mail.type(0, Talk.four("LL ", 0)));
        Check.same("50", false, x.mail.type(0, Talk.four("LLLL", 0)));
        Check.same("an exception comes first", "IllegalArgumentException",
                Check.thrown(() -> x.mail.type(0, 0x1F4141)));
        Check.same("48", true, x.mail.type(0, Talk.four("LL", 0)));
        Check.same("49", false, x.mail.type(0, 'L'));
        Check.same("an exception comes first", "IllegalArgumentException", Check.thrown(() -> x.mail.type(0, 200)));
        Check.same("nothing more", true, x.mail.type(0, 0));
        Check.same("48 stand", "NO", x.enter(0, ""));
        Check.same("empty again", "OK", x.enter(0, "a SELECT a"));
        Check.same("all 48 are read", "OK", x.enter(0, FULL));
    }
}

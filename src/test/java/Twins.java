/** Two objects with the same calls behind them: one is refused a call more, and then both must answer all alike. */
final class Twins {
    private static final int EVERY_REPLY = -1;

    private Twins() {
    }

    interface Call {
        void on(MailSessions mail);
    }

    /** The call throws, and changes nothing. */
    static void thrown(String what, String due, Call call, String... steps) {
        Talk asked = Talk.after(steps);
        Check.same(what, due, Check.thrown(() -> call.on(asked.mail)));
        Check.same("what stands after " + what, everything(Talk.after(steps), EVERY_REPLY),
                everything(asked, EVERY_REPLY));
    }

    /** The line is no command: it is empty then, and all else as it was, the reply too. */
    static void noCommand(int session, String line, String... steps) {
        Talk asked = Talk.after(steps);
        Check.same(line, "IllegalArgumentException", asked.enter(session, line));
        Check.same("what stands after " + line, everything(Talk.after(steps), EVERY_REPLY),
                everything(asked, EVERY_REPLY));
    }

    /** The line is answered by NO, which comes alone; all but line and reply is as it was. */
    static void refused(int session, String line, String... steps) {
        Talk asked = Talk.after(steps);
        Check.same(line, line.substring(0, line.indexOf(' ')) + " NO", asked.ask(session, line));
        Check.same("what stands after " + line, everything(Talk.after(steps), session), everything(asked, session));
    }

    /** All that calls can find out, but the reply of one session; mailbox d must not be there. */
    private static String everything(Talk x, int quiet) {
        StringBuilder all = new StringBuilder();
        for (int session = 0; session < 3; session++) {
            all.append(x.view(session)).append(session == quiet ? "" : " " + x.reply(session)).append('\n');
        }
        for (int mailbox = 0; mailbox < 4; mailbox++) {
            all.append(x.listed(mailbox)).append('\n');
        }
        boolean[] connected = new boolean[3];
        for (int session = 0; session < 3; session++) {
            String typed = x.ask(session, "");
            all.append("line: ").append(typed).append('\n');
            connected[session] = !typed.equals("IllegalStateException");
        }
        for (int session = 0; session < 3; session++) {
            if (connected[session]) {
                all.append(x.ask(session, "p UID SEARCH ALL")).append('\n');
                all.append(x.ask(session, "p EXPUNGE")).append('\n');
            }
        }
        if (!connected[0]) {
            x.then("connect 0");
        }
        all.append(x.ask(0, "p CREATE d")).append(x.ask(0, "p SELECT d")).append(x.ask(0, "p SELECT a"));
        return all.toString();
    }
}

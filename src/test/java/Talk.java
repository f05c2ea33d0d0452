/** An object under test with its calls in a shorter form. */
final class Talk {
    static final int MOST_CALLS = 512;

    final MailSessions mail = new MailSessions();
    int calls;

    /** An object with these steps behind it. */
    static Talk after(String... steps) {
        return new Talk().then(steps);
    }

    /** Steps that must go well, each "connect s", "type s text", or "s line" for a line that session s enters. */
    Talk then(String... steps) {
        for (String step : steps) {
            if (step.startsWith("connect ")) {
                count(1);
                mail.connect(step.charAt(8) - '0');
            } else if (step.startsWith("type ")) {
                type(step.charAt(5) - '0', step.substring(7));
            } else if (!enter(step.charAt(0) - '0', step.substring(2)).equals("OK")) {
                throw new AssertionError("a step that a test begins with did not go well: " + step);
            }
        }
        return this;
    }

    /** Types the line in calls of up to four characters. */
    void type(int session, String line) {
        for (int from = 0; from < line.length(); from += 4) {
            count(1);
            if (!mail.type(session, four(line, from))) {
                throw new IllegalArgumentException("too long: " + line);
            }
        }
    }

    static int four(String line, int from) {
        int four = 0;
        for (int i = 0; i < 4 && from + i < line.length(); i++) {
            four |= line.charAt(from + i) << (8 * i);
        }
        return four;
    }

    /** Types and enters a line: OK, NO, or the name of what was thrown. */
    String enter(int session, String line) {
        type(session, line);
        count(1);
        try {
            int answer = mail.enter(session);
            return answer == 0 ? "OK" : answer == 1 ? "NO" : "answer " + answer;
        } catch (RuntimeException e) {
            return e.getClass().getSimpleName();
        }
    }

    String reply(int session) {
        count(1);
        StringBuilder text = new StringBuilder();
        int length = mail.replied(session);
        for (int i = 0; i < length; i++) {
            count(1);
            text.append(mail.reply(session, i));
        }
        return text.toString();
    }

    /** The reply to a line, with | between its lines; what was thrown when it is no command. */
    String ask(int session, String line) {
        String answer = enter(session, line);
        if (!answer.equals("OK") && !answer.equals("NO")) {
            return answer;
        }
        String text = reply(session);
        if (!text.endsWith(" " + answer)) {
            return "answered " + answer + " but replied " + text;
        }
        return text.replace('\n', '|');
    }

    int view(int session) {
        count(1);
        return mail.view(session);
    }

    /** number:flags:letters of each message of a mailbox, with blanks between. */
    String listed(int mailbox) {
        count(1);
        int messages = mail.messages(mailbox);
        StringBuilder text = new StringBuilder();
        for (int i = 0; i < messages; i++) {
            count(3);
            text.append(i == 0 ? "" : " ").append(mail.message(mailbox, i, 0)).append(':')
                    .append(mail.message(mailbox, i, 1)).append(':').append(mail.message(mailbox, i, 2));
        }
        return messages < 0 ? "not there" : text.toString();
    }

    /** Nothing is promised after call 512, so a test that goes on would test nothing. */
    private void count(int more) {
        calls += more;
        if (calls > MOST_CALLS) {
            throw new AssertionError("a test makes more than 512 calls on one object");
        }
    }
}

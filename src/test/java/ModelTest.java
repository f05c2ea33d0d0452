import java.util.List;

/** Long mixed runs of calls, compared with a second program that was written from the document alone. */
final class ModelTest {
    private static final int RUNS = 6000;
    private static long seed = 20261119L;

    public static void main(String[] args) {
        for (int run = 0; run < RUNS; run++) {
            oneRun(run);
        }
        Check.end();
    }

    private static int pick(int below) {
        seed = seed * 6364136223846793005L + 1442695040888963407L;
        return (int) ((seed >>> 33) % below);
    }

    private static String pick(String... words) {
        return words[pick(words.length)];
    }

    private static void oneRun(int run) {
        MailSessions mail = new MailSessions();
        Model model = new Model();
        int[] calls = {0};
        int mode = pick(3);
        for (int turn = 0; turn < 200 && calls[0] < 420; turn++) {
            int session = pick(5) == 0 ? pick(3) : pick(2);
            if (!model.sessions[session].connected) {
                mail.connect(session);
                model.sessions[session].connected = true;
                calls[0]++;
                continue;
            }
            String line = pick(40) == 0 ? spoilt(line(model)) : line(model);
            if (line.length() > 48) {
                continue;
            }
            String where = "run " + run + ", turn " + turn + ", session " + session + ", " + line;
            for (int from = 0; from < line.length(); from += 4) {
                mail.type(session, Talk.four(line, from));
                calls[0]++;
            }
            String answer;
            try {
                answer = mail.enter(session) == 0 ? "OK" : "NO";
            } catch (IllegalArgumentException e) {
                answer = "none";
            }
            calls[0]++;
            Check.same(where, model.enter(session, line), answer);
            compareReply(where, mail, model.sessions[session].reply, session, mode, calls);
            Check.same("view of " + where, model.view(session), mail.view(session));
            calls[0]++;
        }
        compareMailboxes("run " + run, mail, model, calls);
    }

    private static void compareReply(String where, MailSessions mail, String due, int session, int mode, int[] calls) {
        Check.same("replied to " + where, due.length(), mail.replied(session));
        calls[0]++;
        for (int i = 0; i < due.length() && calls[0] < 440; i++) {
            if (mode == 0 || pick(12) == 0) {
                Check.same("sign " + i + " of " + due + "\nfor " + where, due.charAt(i), mail.reply(session, i));
                calls[0]++;
            }
        }
    }

    private static void compareMailboxes(String where, MailSessions mail, Model model, int[] calls) {
        for (int box = 0; box < 4; box++) {
            List<Model.Mail> row = model.boxes[box];
            Check.same("messages of " + box + " " + where, row == null ? -1 : row.size(), mail.messages(box));
            calls[0]++;
            for (int i = 0; row != null && i < row.size() && calls[0] < 500; i++) {
                Check.same("number " + where, row.get(i).number, mail.message(box, i, 0));
                Check.same("flags " + where, row.get(i).bits(), mail.message(box, i, 1));
                Check.same("letters " + where, row.get(i).text.length(), mail.message(box, i, 2));
                calls[0] += 3;
            }
        }
    }

    private static String spoilt(String line) {
        int at = pick(line.length() + 1);
        String sign = pick("", " ", "(", ")", "*", "1", ",", ":", "S", "a", "NOT ", "UID ", "+", "0", "~");
        return line.substring(0, at) + sign + line.substring(Math.min(line.length(), at + pick(2)));
    }

    private static String line(Model model) {
        String tag = pick("a", "b1", "9", "zz");
        String uid = pick(3) == 0 ? "UID " : "";
        boolean number = !uid.isEmpty();
        switch (pick(22)) {
            case 0:
                return tag + " NOOP";
            case 1:
                return tag + (pick(3) == 0 ? " CLOSE" : " EXPUNGE");
            case 2:
                return tag + (pick(4) == 0 ? " LOGOUT" : " EXPUNGE");
            case 3:
                return tag + pick(" CREATE ", " DELETE ") + pick("b", "c", "d", "a");
            case 4:
                return tag + pick(" SELECT ", " EXAMINE ") + pick("a", "a", "b", "c", "d");
            case 5:
                return tag + " SELECT " + pick("a", "a", "b");
            case 6:
            case 7:
            case 8:
            case 9:
                return tag + " APPEND " + pick("a", "a", "a", "b", "c") + " " + flags() + " " + text(pick(6) + 1);
            case 10:
            case 11:
            case 12:
                return tag + " " + uid + "STORE " + set(number) + " " + pick("", "+", "-") + flags();
            case 13:
            case 14:
            case 15:
                return tag + " " + uid + "FETCH " + set(number) + " " + pick("FLAGS", "UID", "TEXT");
            case 16:
            case 17:
                return tag + " " + uid + "COPY " + set(number) + " " + pick("a", "a", "b", "c");
            default:
                return tag + " " + uid + "SEARCH " + search(3);
        }
    }

    private static String flags() {
        StringBuilder flags = new StringBuilder("(");
        for (int i = pick(4); i > 0; i--) {
            flags.append(pick("S", "A", "F", "D"));
        }
        return flags.append(')').toString();
    }

    private static String text(int letters) {
        StringBuilder text = new StringBuilder();
        for (int i = 0; i < letters; i++) {
            text.append(pick("a", "b"));
        }
        return text.toString();
    }

    private static String set(boolean number) {
        StringBuilder set = new StringBuilder();
        for (int i = pick(4) / 2; i >= 0; i--) {
            set.append(point(number)).append(pick(2) == 0 ? ":" + point(number) : "").append(i > 0 ? "," : "");
        }
        return set.toString();
    }

    private static String point(boolean number) {
        return pick(3) == 0 ? "*" : pick(25) == 0 ? pick("0", "00", "12", "999") : "" + (1 + pick(number ? 14 : 4));
    }

    private static String search(int depth) {
        return key(depth) + (pick(3) == 0 ? " " + key(depth) : "");
    }

    private static String key(int depth) {
        switch (pick(depth > 0 ? 10 : 6)) {
            case 0:
                return "ALL";
            case 1:
                return "HAS " + pick("S", "A", "F", "D");
            case 2:
            case 3:
                return "TEXT " + text(1 + pick(3));
            case 4:
                return "UID " + set(true);
            case 5:
                return set(false);
            case 6:
            case 7:
                return "NOT " + key(depth - 1);
            case 8:
                return "OR " + key(depth - 1) + " " + key(depth - 1);
            default:
                return "(" + search(depth - 1) + ")";
        }
    }
}

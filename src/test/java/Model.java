import java.util.ArrayList;
import java.util.List;
import java.util.regex.Matcher;
import java.util.regex.Pattern;

/**
 * The document in another form, with the Java library's regular expressions: slow, and built otherwise than the
 * program, so that a fault is unlikely to stand in both.
 */
final class Model {
    private static final String POINT = "(?:\\*|\\d{1,3})";
    private static final String RANGE = POINT + "(?::" + POINT + ")?";
    private static final String SET = RANGE + "(?:," + RANGE + ")*";
    private static final Pattern LINE = Pattern.compile("([a-z0-9]{1,2}) (?:(NOOP|CLOSE|EXPUNGE|LOGOUT)"
            + "|(CREATE|DELETE|SELECT|EXAMINE) ([a-d])|(APPEND) ([a-d]) \\(([SAFD]*)\\) ([a-z]{1,6})"
            + "|(UID )?(?:(STORE) (" + SET + ") ([+-]?)\\(([SAFD]*)\\)|(FETCH) (" + SET + ") (FLAGS|UID|TEXT)"
            + "|(COPY) (" + SET + ") ([a-d])|(SEARCH) (.+)))");

    static final class Mail {
        int number;
        String text;
        String flags;

        Mail(int number, String flags, String text) {
            this.number = number;
            this.text = text;
            this.flags = flags;
        }

        int bits() {
            int bits = 0;
            for (int i = 0; i < 4; i++) {
                bits += flags.indexOf("SAFD".charAt(i)) >= 0 ? 1 << i : 0;
            }
            return bits;
        }
    }

    static final class Seen {
        Mail mail;
        String told;
    }

    static final class Session {
        boolean connected;
        int selected = -1;
        boolean writes;
        String reply = "";
        List<Seen> view = new ArrayList<>();
    }

    @SuppressWarnings({"unchecked", "rawtypes"})
    final List<Mail>[] boxes = new List[4];
    final int[] validity = new int[4];
    final int[] next = new int[4];
    final Session[] sessions = {new Session(), new Session(), new Session()};
    private int given = 1;
    private boolean wrong;
    private Session now;
    private List<String> lines;

    Model() {
        boxes[0] = new ArrayList<>();
        validity[0] = 1;
        next[0] = 1;
        sessions[0].connected = true;
    }

    int view(int session) {
        return sessions[session].selected < 0 ? -1 : sessions[session].view.size();
    }

    String enter(int session, String line) {
        Matcher m = LINE.matcher(line);
        if (!m.matches()) {
            return "none";
        }
        now = sessions[session];
        wrong = false;
        boolean[] found = null;
        if (m.group(20) != null) {
            Keys keys = new Keys(m.group(21));
            found = keys.all();
            if (found == null) {
                return "none";
            }
        }
        lines = new ArrayList<>();
        boolean done = perform(m, found);
        if (!done) {
            lines.clear();
        }
        lines.add(m.group(1) + (done ? " OK" : " NO"));
        now.reply = String.join("\n", lines);
        return done ? "OK" : "NO";
    }

    private boolean perform(Matcher m, boolean[] found) {
        boolean uid = m.group(9) != null;
        boolean done = true;
        boolean quiet = false;
        boolean keepGone = false;
        if (m.group(2) != null) {
            switch (m.group(2)) {
                case "NOOP":
                    break;
                case "LOGOUT":
                    now.connected = false;
                    now.selected = -1;
                    quiet = true;
                    break;
                case "CLOSE":
                    if (now.selected < 0) {
                        return false;
                    }
                    if (now.writes) {
                        expunge();
                    }
                    now.selected = -1;
                    quiet = true;
                    break;
                default:
                    if (now.selected < 0 || !now.writes) {
                        return false;
                    }
                    expunge();
                    break;
            }
        } else if (m.group(3) != null) {
            done = named(m.group(3), m.group(4).charAt(0) - 'a');
            quiet = m.group(3).equals("SELECT") || m.group(3).equals("EXAMINE");
        } else if (m.group(5) != null) {
            int box = m.group(6).charAt(0) - 'a';
            if (boxes[box] == null || boxes[box].size() == 10) {
                return false;
            }
            boxes[box].add(new Mail(next[box]++, ordered(m.group(7)), m.group(8)));
        } else if (now.selected < 0) {
            return false;
        } else if (m.group(10) != null) {
            keepGone = !uid;
            done = store(places(m.group(11), uid), m.group(12), m.group(13));
        } else if (m.group(14) != null) {
            keepGone = !uid;
            done = fetch(places(m.group(15), uid), m.group(16));
        } else if (m.group(17) != null) {
            done = copy(places(m.group(18), uid), m.group(19).charAt(0) - 'a');
        } else {
            keepGone = !uid;
            done = search(found, uid);
        }
        if (done && !quiet && now.selected >= 0) {
            tell(keepGone);
        }
        return done;
    }

    private boolean named(String word, int box) {
        if ((boxes[box] == null) != word.equals("CREATE")) {
            return false;
        }
        if (word.equals("CREATE")) {
            boxes[box] = new ArrayList<>();
            validity[box] = ++given;
            next[box] = 1;
        } else if (word.equals("DELETE")) {
            for (Session s : sessions) {
                if (s.connected && s.selected == box) {
                    return false;
                }
            }
            boxes[box] = null;
        } else {
            now.selected = box;
            now.writes = word.equals("SELECT");
            now.view = new ArrayList<>();
            for (Mail mail : boxes[box]) {
                see(mail);
            }
            lines.add("* " + boxes[box].size() + " EXISTS");
            lines.add("* " + validity[box] + " UIDVALIDITY");
            lines.add("* " + next[box] + " UIDNEXT");
        }
        return true;
    }

    private void see(Mail mail) {
        Seen seen = new Seen();
        seen.mail = mail;
        seen.told = mail.flags;
        now.view.add(seen);
    }

    private void expunge() {
        boxes[now.selected].removeIf(mail -> mail.flags.contains("D"));
    }

    private static String ordered(String flags) {
        StringBuilder text = new StringBuilder();
        for (String flag : "S A F D".split(" ")) {
            text.append(flags.contains(flag) ? flag : "");
        }
        return text.toString();
    }

    private boolean gone(int i) {
        return !boxes[now.selected].contains(now.view.get(i).mail);
    }

    private boolean store(boolean[] places, String change, String flags) {
        if (wrong || !now.writes) {
            return false;
        }
        for (int i = 0; i < places.length; i++) {
            if (places[i] && !gone(i)) {
                Mail mail = now.view.get(i).mail;
                String kept = mail.flags.replaceAll("[" + flags + "-]", "");
                mail.flags = ordered(change.equals("-") ? kept : change.equals("+") ? mail.flags + flags : flags);
                tellFlags(i);
            }
        }
        return true;
    }

    private void tellFlags(int i) {
        Seen seen = now.view.get(i);
        seen.told = seen.mail.flags;
        lines.add("* " + (i + 1) + " FETCH (" + seen.told + ")");
    }

    private boolean fetch(boolean[] places, String item) {
        if (wrong) {
            return false;
        }
        for (int i = 0; i < places.length; i++) {
            if (places[i] && !gone(i)) {
                Mail mail = now.view.get(i).mail;
                if (item.equals("FLAGS")) {
                    tellFlags(i);
                    continue;
                }
                lines.add("* " + (i + 1) + " FETCH " + (item.equals("UID") ? "" + mail.number : mail.text));
                if (item.equals("TEXT") && now.writes) {
                    mail.flags = ordered(mail.flags + "S");
                }
            }
        }
        return true;
    }

    private boolean copy(boolean[] places, int box) {
        List<Mail> copied = new ArrayList<>();
        for (int i = 0; i < places.length; i++) {
            if (places[i] && !gone(i)) {
                copied.add(now.view.get(i).mail);
            }
        }
        if (wrong || boxes[box] == null || boxes[box].size() + copied.size() > 10) {
            return false;
        }
        for (Mail mail : copied) {
            boxes[box].add(new Mail(next[box]++, mail.flags, mail.text));
        }
        return true;
    }

    private boolean search(boolean[] found, boolean uid) {
        if (wrong) {
            return false;
        }
        StringBuilder text = new StringBuilder("* SEARCH");
        for (int i = 0; i < found.length; i++) {
            if (found[i] && !gone(i)) {
                text.append(' ').append(uid ? now.view.get(i).mail.number : i + 1);
            }
        }
        lines.add(text.toString());
        return true;
    }

    private void tell(boolean keepGone) {
        for (int i = 0; i < now.view.size() && !keepGone; ) {
            if (gone(i)) {
                lines.add("* " + (i + 1) + " EXPUNGE");
                now.view.remove(i);
            } else {
                i++;
            }
        }
        int before = now.view.size();
        for (Mail mail : boxes[now.selected]) {
            if (now.view.stream().noneMatch(seen -> seen.mail == mail) && now.view.size() < 40) {
                see(mail);
            }
        }
        if (now.view.size() > before) {
            lines.add("* " + now.view.size() + " EXISTS");
        }
        for (int i = 0; i < now.view.size(); i++) {
            if (!gone(i) && !now.view.get(i).told.equals(now.view.get(i).mail.flags)) {
                tellFlags(i);
            }
        }
    }

    /** A set's places, gone ones too; marks it when it is wrong. */
    private boolean[] places(String set, boolean byNumber) {
        int count = now.selected < 0 ? 0 : now.view.size();
        boolean[] in = new boolean[count];
        for (String range : set.split(",")) {
            int[] ends = new int[2];
            String[] points = range.split(":");
            for (int e = 0; e < 2; e++) {
                String point = points[Math.min(e, points.length - 1)];
                int greatest = count;
                for (int i = 0; i < count && byNumber; i++) {
                    greatest = Math.max(i == 0 ? 0 : greatest, now.view.get(i).mail.number);
                }
                ends[e] = point.equals("*") ? greatest : Integer.parseInt(point);
                wrong |= !byNumber && (count == 0 || ends[e] < 1 || ends[e] > count);
            }
            for (int i = 0; i < count; i++) {
                int value = byNumber ? now.view.get(i).mail.number : i + 1;
                in[i] |= Math.min(ends[0], ends[1]) <= value && value <= Math.max(ends[0], ends[1]);
            }
        }
        return in;
    }

    /** Keys are read off the front of the rest of the text. */
    private final class Keys {
        private static final Pattern HEAD = Pattern.compile(
                "(ALL)|HAS ([SAFD])|TEXT ([a-z]+)|UID (" + SET + ")|(NOT )|(OR )|(\\()|(" + SET + ")");
        private String rest;

        Keys(String text) {
            rest = text;
        }

        /** Null when the text is no search. */
        boolean[] all() {
            boolean[] places = search(0);
            return rest.isEmpty() ? places : null;
        }

        private boolean[] search(int depth) {
            boolean[] places = key(depth);
            while (places != null && rest.startsWith(" ")) {
                rest = rest.substring(1);
                boolean[] more = key(depth);
                if (more == null) {
                    return null;
                }
                for (int i = 0; i < places.length; i++) {
                    places[i] &= more[i];
                }
            }
            return places;
        }

        private boolean[] key(int depth) {
            Matcher m = HEAD.matcher(rest);
            if (depth > 8 || !m.lookingAt()) {
                return null;
            }
            rest = rest.substring(m.end());
            boolean[] places = new boolean[now.selected < 0 ? 0 : now.view.size()];
            if (m.group(4) != null || m.group(8) != null) {
                return m.group(4) != null ? places(m.group(4), true) : places(m.group(8), false);
            }
            if (m.group(5) != null) {
                boolean[] inner = key(depth + 1);
                for (int i = 0; i < places.length && inner != null; i++) {
                    places[i] = !inner[i];
                }
                return inner == null ? null : places;
            }
            if (m.group(6) != null) {
                boolean[] one = key(depth + 1);
                if (one == null || !rest.startsWith(" ")) {
                    return null;
                }
                rest = rest.substring(1);
                boolean[] other = key(depth + 1);
                for (int i = 0; i < places.length && other != null; i++) {
                    places[i] = one[i] || other[i];
                }
                return other == null ? null : places;
            }
            if (m.group(7) != null) {
                boolean[] inner = search(depth + 1);
                if (inner == null || !rest.startsWith(")")) {
                    return null;
                }
                rest = rest.substring(1);
                return inner;
            }
            if (m.group(3) != null && m.group(3).length() > 6) {
                return null;
            }
            for (int i = 0; i < places.length; i++) {
                Mail mail = now.view.get(i).mail;
                places[i] = m.group(1) != null || m.group(2) != null && mail.flags.contains(m.group(2))
                        || m.group(3) != null && mail.text.contains(m.group(3));
            }
            return places;
        }
    }
}

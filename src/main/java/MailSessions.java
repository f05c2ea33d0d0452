import java.util.NoSuchElementException;

/** Mailboxes that several sessions look at and change by typed commands. */
public final class MailSessions {

    private static final int SESSIONS = 3;
    private static final int MAILBOXES = 4;
    private static final int MOST_TYPED = 48;
    private static final int MOST_MESSAGES = 10;
    private static final int MOST_PLACES = 40;
    private static final int MOST_LETTERS = 6;
    private static final int MOST_DIGITS = 3;
    private static final int MOST_KEYS_AROUND = 8;
    /** More than the longest reply needs: 40 places told gone (13 signs each), 10 messages told twice (18 each). */
    private static final int MOST_REPLIED = 1024;

    private static final String FLAG_LETTERS = "SAFD";
    private static final int FLAG_S = 1;
    private static final int FLAG_D = 8;

    private static final int FETCH_FLAGS = 0;
    private static final int FETCH_UID = 1;
    private static final int FETCH_TEXT = 2;

    private static final int STORE_ALONE = 0;
    private static final int STORE_BESIDES = 1;
    private static final int STORE_NO_MORE = 2;

    private static final int WHAT_NUMBER = 0;
    private static final int WHAT_FLAGS = 1;
    private static final int WHAT_LETTERS = 2;

    private static final char LINE_END = (char) 10;

    private static final Verb[] VERBS = Verb.values();

    private final Mailbox[] mailboxes;
    private final Session[] sessions;
    private int latestValidity;

    public MailSessions() {
        mailboxes = new Mailbox[MAILBOXES];
        for (int i = 0; i < MAILBOXES; i++) {
            mailboxes[i] = new Mailbox();
        }
        sessions = new Session[SESSIONS];
        for (int i = 0; i < SESSIONS; i++) {
            sessions[i] = new Session();
        }
        latestValidity = 1;
        mailboxes[0].create(latestValidity);
        sessions[0].connected = true;
    }

    public boolean type(int session, int four)
            throws IndexOutOfBoundsException, IllegalStateException, IllegalArgumentException {
        Session typist = connectedSession(session);
        int signs = 0;
        for (int i = 0; i < 4 && byteOf(four, i) != 0; i++) {
            if (byteOf(four, i) < 32 || byteOf(four, i) > 126) {
                throw new IllegalArgumentException();
            }
            signs++;
        }
        if (typist.typed + signs > MOST_TYPED) {
            return false;
        }
        for (int i = 0; i < signs; i++) {
            typist.line[typist.typed] = (char) byteOf(four, i);
            typist.typed++;
        }
        return true;
    }

    public int enter(int session)
            throws IndexOutOfBoundsException, IllegalStateException, IllegalArgumentException {
        Session asker = connectedSession(session);
        Reader reader = new Reader(asker.line, asker.typed, asker.view);
        Command command = reader.readCommand();
        asker.typed = 0;
        if (command == null) {
            throw new IllegalArgumentException();
        }
        asker.reply.length = 0;
        boolean refused = isRefused(asker, command);
        if (!refused) {
            perform(asker, command);
            asker.tellChanges(!command.verb.keepsPlaces || command.uid);
        }
        asker.reply.putText(command.tag);
        asker.reply.putText(refused ? " NO" : " OK");
        return refused ? 1 : 0;
    }

    public void connect(int session) throws IndexOutOfBoundsException, IllegalStateException {
        Session caller = anySession(session);
        if (caller.connected) {
            throw new IllegalStateException();
        }
        caller.connected = true;
        caller.typed = 0;
    }

    public int replied(int session) throws IndexOutOfBoundsException {
        return anySession(session).reply.length;
    }

    public char reply(int session, int i) throws IndexOutOfBoundsException {
        Reply latest = anySession(session).reply;
        if (i < 0 || i >= latest.length) {
            throw new IndexOutOfBoundsException();
        }
        return latest.signs[i];
    }

    public int view(int session) {
        if (session < 0 || session >= SESSIONS || sessions[session].selected == null) {
            return -1;
        }
        return sessions[session].view.count;
    }

    public int messages(int mailbox) {
        return isThere(mailbox) ? mailboxes[mailbox].count : -1;
    }

    public int message(int mailbox, int i, int what) throws NoSuchElementException {
        if (!isThere(mailbox) || i < 0 || i >= mailboxes[mailbox].count) {
            throw new NoSuchElementException();
        }
        Message asked = mailboxes[mailbox].row[i];
        switch (what) {
            case WHAT_NUMBER:
                return asked.number;
            case WHAT_FLAGS:
                return asked.flags;
            case WHAT_LETTERS:
                return asked.text.length();
            default:
                throw new NoSuchElementException();
        }
    }

    private Session anySession(int session) throws IndexOutOfBoundsException {
        if (session < 0 || session >= SESSIONS) {
            throw new IndexOutOfBoundsException();
        }
        return sessions[session];
    }

    private Session connectedSession(int session) throws IndexOutOfBoundsException, IllegalStateException {
        Session found = anySession(session);
        if (!found.connected) {
            throw new IllegalStateException();
        }
        return found;
    }

    private boolean isThere(int mailbox) {
        return mailbox >= 0 && mailbox < MAILBOXES && mailboxes[mailbox].there;
    }

    private static int byteOf(int four, int i) {
        return four >>> (8 * i) & 255;
    }

    private boolean isRefused(Session asker, Command command) {
        Verb verb = command.verb;
        if (verb.needsSelected && asker.selected == null || verb.needsWrite && !asker.writes || command.wrong) {
            return true;
        }
        Mailbox named = mailboxes[command.mailbox];
        switch (verb) {
            case CREATE:
                return named.there;
            case DELETE:
                return !named.there || isSelected(named);
            case SELECT:
            case EXAMINE:
                return !named.there;
            case APPEND:
                return !named.there || named.count + 1 > MOST_MESSAGES;
            case COPY:
                return !named.there || named.count + Long.bitCount(command.places) > MOST_MESSAGES;
            default:
                return false;
        }
    }

    private boolean isSelected(Mailbox mailbox) {
        for (int i = 0; i < SESSIONS; i++) {
            if (sessions[i].selected == mailbox) {
                return true;
            }
        }
        return false;
    }

    private void perform(Session asker, Command command) {
        Mailbox named = mailboxes[command.mailbox];
        switch (command.verb) {
            case CREATE:
                latestValidity++;
                named.create(latestValidity);
                break;
            case DELETE:
                named.there = false;
                break;
            case APPEND:
                named.add(command.flags, command.text);
                break;
            case SELECT:
                asker.select(named, true);
                break;
            case EXAMINE:
                asker.select(named, false);
                break;
            case CLOSE:
                asker.expunge();
                asker.unselect();
                break;
            case LOGOUT:
                asker.unselect();
                asker.connected = false;
                break;
            case EXPUNGE:
                asker.expunge();
                break;
            case STORE:
                asker.store(command);
                break;
            case FETCH:
                asker.fetch(command);
                break;
            case COPY:
                asker.copy(command.places, named);
                break;
            case SEARCH:
                asker.search(command);
                break;
            default:
                break;
        }
    }

    /** What a line can ask for, each with the word that stands for it. */
    private enum Verb {
        NOOP("NOOP", false, false, false, false),
        CLOSE("CLOSE", false, true, false, false),
        EXPUNGE("EXPUNGE", false, true, true, false),
        LOGOUT("LOGOUT", false, false, false, false),
        CREATE("CREATE ", false, false, false, false),
        DELETE("DELETE ", false, false, false, false),
        SELECT("SELECT ", false, false, false, false),
        EXAMINE("EXAMINE ", false, false, false, false),
        APPEND("APPEND ", false, false, false, false),
        STORE("STORE ", true, true, true, true),
        FETCH("FETCH ", true, true, false, true),
        COPY("COPY ", true, true, false, false),
        SEARCH("SEARCH ", true, true, false, true);

        /** With the blank that parts it from what comes behind it. */
        final String word;
        final boolean takesUid;
        final boolean needsSelected;
        final boolean needsWrite;
        /** Without UID, gone messages keep their places in the view. */
        final boolean keepsPlaces;

        Verb(String word, boolean takesUid, boolean needsSelected, boolean needsWrite, boolean keepsPlaces) {
            this.word = word;
            this.takesUid = takesUid;
            this.needsSelected = needsSelected;
            this.needsWrite = needsWrite;
            this.keepsPlaces = keepsPlaces;
        }
    }

    private static final class Message {
        final int number;
        final String text;
        int flags;
        boolean gone;

        Message(int number, int flags, String text) {
            this.number = number;
            this.flags = flags;
            this.text = text;
        }
    }

    private static final class Mailbox {
        final Message[] row = new Message[MOST_MESSAGES];
        boolean there;
        int validity;
        int next;
        int count;

        void create(int newValidity) {
            there = true;
            validity = newValidity;
            next = 1;
            count = 0;
        }

        void add(int flags, String text) {
            if (count < MOST_MESSAGES) {
                row[count] = new Message(next, flags, text);
                count++;
                next++;
            }
        }

        /** All messages with the flag D go. */
        void expunge() {
            int kept = 0;
            for (int i = 0; i < count; i++) {
                Message message = row[i];
                if ((message.flags & FLAG_D) != 0) {
                    message.gone = true;
                } else {
                    row[kept] = message;
                    kept++;
                }
            }
            count = kept;
        }
    }

    /** Rows of places are bit masks: bit i stands for sequence number i + 1. */
    private static final class View {
        final Message[] row = new Message[MOST_PLACES];
        final int[] told = new int[MOST_PLACES];
        int count;
        /** The number of the message that came last, also when it has left the view since. */
        int newest;

        void empty() {
            count = 0;
            newest = 0;
        }

        /** Whether any message came that was not seen before. */
        boolean takeNew(Mailbox mailbox) {
            boolean any = false;
            for (int i = 0; i < mailbox.count; i++) {
                Message message = mailbox.row[i];
                if (message.number > newest && count < MOST_PLACES) {
                    row[count] = message;
                    told[count] = message.flags;
                    count++;
                    newest = message.number;
                    any = true;
                }
            }
            return any;
        }

        /** What the point * stands for. */
        int last(boolean byNumber) {
            return byNumber && count > 0 ? row[count - 1].number : count;
        }

        long present() {
            return between(1, count, false);
        }

        /** The places not gone whose message number, or whose sequence number, is low to high. */
        long between(int low, int high, boolean byNumber) {
            long places = 0;
            for (int i = 0; i < count; i++) {
                int number = byNumber ? row[i].number : i + 1;
                if (!row[i].gone && low <= number && number <= high) {
                    places |= 1L << i;
                }
            }
            return places;
        }

        long withFlag(int flag) {
            long places = 0;
            for (int i = 0; i < count; i++) {
                if (!row[i].gone && (row[i].flags & flag) != 0) {
                    places |= 1L << i;
                }
            }
            return places;
        }

        long withText(String part) {
            long places = 0;
            for (int i = 0; i < count; i++) {
                if (!row[i].gone && contains(row[i].text, part)) {
                    places |= 1L << i;
                }
            }
            return places;
        }

        private static boolean contains(String text, String part) {
            for (int from = 0; from + part.length() <= text.length(); from++) {
                int same = 0;
                while (same < part.length() && text.charAt(from + same) == part.charAt(same)) {
                    same++;
                }
                if (same == part.length()) {
                    return true;
                }
            }
            return false;
        }
    }

    private static final class Reply {
        final char[] signs = new char[MOST_REPLIED];
        int length;

        void putSign(char sign) {
            if (length < MOST_REPLIED) {
                signs[length] = sign;
                length++;
            }
        }

        void putText(String text) {
            for (int i = 0; i < text.length(); i++) {
                putSign(text.charAt(i));
            }
        }

        void putNumber(int number) {
            for (int unit = 1000000000; unit > 0; unit /= 10) {
                if (number >= unit || unit == 1) {
                    putSign((char) ('0' + number / unit % 10));
                }
            }
        }

        void startLine(int number, String word) {
            putText("* ");
            putNumber(number);
            putText(word);
        }

        void putLine(int number, String word) {
            startLine(number, word);
            putSign(LINE_END);
        }

        void putFlags(int flags) {
            putSign('(');
            for (int i = 0; i < FLAG_LETTERS.length(); i++) {
                if ((flags >> i & 1) != 0) {
                    putSign(FLAG_LETTERS.charAt(i));
                }
            }
            putSign(')');
        }
    }

    /** A line as it was read; its places are those not gone. */
    private static final class Command {
        String tag;
        Verb verb;
        boolean uid;
        int mailbox;
        int flags;
        String text;
        int change;
        int item;
        long places;
        boolean wrong;
    }

    private static final class Session {
        final char[] line = new char[MOST_TYPED];
        final Reply reply = new Reply();
        final View view = new View();
        boolean connected;
        int typed;
        Mailbox selected;
        boolean writes;

        void select(Mailbox mailbox, boolean toWrite) {
            selected = mailbox;
            writes = toWrite;
            view.empty();
            view.takeNew(mailbox);
            reply.putLine(mailbox.count, " EXISTS");
            reply.putLine(mailbox.validity, " UIDVALIDITY");
            reply.putLine(mailbox.next, " UIDNEXT");
        }

        void unselect() {
            selected = null;
            writes = false;
            view.empty();
        }

        void expunge() {
            if (selected != null && writes) {
                selected.expunge();
            }
        }

        void store(Command command) {
            for (int i = 0; i < view.count; i++) {
                if ((command.places >> i & 1) != 0) {
                    Message message = view.row[i];
                    if (command.change == STORE_BESIDES) {
                        message.flags |= command.flags;
                    } else if (command.change == STORE_NO_MORE) {
                        message.flags &= ~command.flags;
                    } else {
                        message.flags = command.flags;
                    }
                    tellFlags(i);
                }
            }
        }

        void fetch(Command command) {
            for (int i = 0; i < view.count; i++) {
                if ((command.places >> i & 1) == 0) {
                    continue;
                }
                Message message = view.row[i];
                if (command.item == FETCH_FLAGS) {
                    tellFlags(i);
                } else if (command.item == FETCH_UID) {
                    reply.startLine(i + 1, " FETCH ");
                    reply.putNumber(message.number);
                    reply.putSign(LINE_END);
                } else {
                    reply.startLine(i + 1, " FETCH ");
                    reply.putText(message.text);
                    reply.putSign(LINE_END);
                    if (writes) {
                        message.flags |= FLAG_S;
                    }
                }
            }
        }

        void copy(long places, Mailbox target) {
            for (int i = 0; i < view.count; i++) {
                if ((places >> i & 1) != 0) {
                    target.add(view.row[i].flags, view.row[i].text);
                }
            }
        }

        void search(Command command) {
            reply.putText("* SEARCH");
            for (int i = 0; i < view.count; i++) {
                if ((command.places >> i & 1) != 0) {
                    reply.putSign(' ');
                    reply.putNumber(command.uid ? view.row[i].number : i + 1);
                }
            }
            reply.putSign(LINE_END);
        }

        /** After SELECT and EXAMINE the view is as the mailbox is, so that nothing is told twice. */
        void tellChanges(boolean goneToo) {
            if (selected == null) {
                return;
            }
            if (goneToo) {
                tellGone();
            }
            if (view.takeNew(selected)) {
                reply.putLine(view.count, " EXISTS");
            }
            for (int i = 0; i < view.count; i++) {
                if (!view.row[i].gone && view.row[i].flags != view.told[i]) {
                    tellFlags(i);
                }
            }
        }

        private void tellGone() {
            int kept = 0;
            for (int i = 0; i < view.count; i++) {
                if (view.row[i].gone) {
                    reply.putLine(kept + 1, " EXPUNGE");
                } else {
                    view.row[kept] = view.row[i];
                    view.told[kept] = view.told[i];
                    kept++;
                }
            }
            view.count = kept;
        }

        private void tellFlags(int i) {
            view.told[i] = view.row[i].flags;
            reply.startLine(i + 1, " FETCH ");
            reply.putFlags(view.told[i]);
            reply.putSign(LINE_END);
        }
    }

    /** Reads one line; sets and keys in it are read as the places of the view for which they hold. */
    private static final class Reader {
        private final char[] line;
        private final int length;
        private final View view;
        private int at;
        private boolean bad;
        private boolean wrong;

        Reader(char[] line, int length, View view) {
            this.line = line;
            this.length = length;
            this.view = view;
        }

        /** Null when the line is no command. */
        Command readCommand() {
            Command command = new Command();
            command.tag = readLetters(2, true);
            need(' ');
            command.uid = takeWord("UID ");
            command.verb = readVerb();
            if (command.verb == null || command.uid && !command.verb.takesUid) {
                return null;
            }
            readRest(command);
            command.wrong = wrong;
            return bad || at < length ? null : command;
        }

        private Verb readVerb() {
            for (int i = 0; i < VERBS.length; i++) {
                if (takeWord(VERBS[i].word)) {
                    return VERBS[i];
                }
            }
            return null;
        }

        private void readRest(Command command) {
            switch (command.verb) {
                case CREATE:
                case DELETE:
                case SELECT:
                case EXAMINE:
                    command.mailbox = readMailbox();
                    break;
                case APPEND:
                    command.mailbox = readMailbox();
                    need(' ');
                    command.flags = readFlags();
                    need(' ');
                    command.text = readLetters(MOST_LETTERS, false);
                    break;
                case STORE:
                    command.places = readSet(command.uid);
                    need(' ');
                    command.change = readChange();
                    command.flags = readFlags();
                    break;
                case FETCH:
                    command.places = readSet(command.uid);
                    need(' ');
                    command.item = readItem();
                    break;
                case COPY:
                    command.places = readSet(command.uid);
                    need(' ');
                    command.mailbox = readMailbox();
                    break;
                case SEARCH:
                    command.places = readSearch(0);
                    break;
                default:
                    break;
            }
        }

        private int readMailbox() {
            char name = sign();
            if (name < 'a' || name >= 'a' + MAILBOXES) {
                bad = true;
                return 0;
            }
            at++;
            return name - 'a';
        }

        private int readChange() {
            if (takeSign('+')) {
                return STORE_BESIDES;
            }
            return takeSign('-') ? STORE_NO_MORE : STORE_ALONE;
        }

        private int readItem() {
            if (takeWord("FLAGS")) {
                return FETCH_FLAGS;
            }
            if (takeWord("UID")) {
                return FETCH_UID;
            }
            if (!takeWord("TEXT")) {
                bad = true;
            }
            return FETCH_TEXT;
        }

        private int readFlags() {
            need('(');
            int flags = 0;
            for (int i = 0; i < MOST_TYPED && !bad && sign() != ')'; i++) {
                flags |= readFlag();
            }
            need(')');
            return flags;
        }

        private int readFlag() {
            int place = FLAG_LETTERS.indexOf(sign());
            if (place < 0) {
                bad = true;
                return 0;
            }
            at++;
            return 1 << place;
        }

        /** One to most of a .. z, and of 0 .. 9 where digits may stand. */
        private String readLetters(int most, boolean digitsToo) {
            int count = 0;
            while (count < most && isLetter(count, digitsToo)) {
                count++;
            }
            char[] letters = new char[count];
            for (int i = 0; i < count; i++) {
                letters[i] = line[at + i];
            }
            at += count;
            bad |= count == 0;
            return new String(letters);
        }

        private boolean isLetter(int ahead, boolean digitsToo) {
            char sign = at + ahead < length ? line[at + ahead] : (char) 0;
            return sign >= 'a' && sign <= 'z' || digitsToo && sign >= '0' && sign <= '9';
        }

        /** Keys that must all hold, each lying in as many others as around tells. */
        private long readSearch(int around) {
            long places = readKey(around);
            for (int i = 0; i < MOST_TYPED && !bad && takeSign(' '); i++) {
                places &= readKey(around);
            }
            return places;
        }

        private long readKey(int around) {
            if (bad || around > MOST_KEYS_AROUND) {
                bad = true;
                return 0;
            }
            if (takeWord("ALL")) {
                return view.present();
            }
            if (takeWord("HAS ")) {
                return view.withFlag(readFlag());
            }
            if (takeWord("TEXT ")) {
                return view.withText(readLetters(MOST_LETTERS, false));
            }
            if (takeWord("UID ")) {
                return readSet(true);
            }
            if (takeWord("NOT ")) {
                return view.present() & ~readKey(around + 1);
            }
            if (takeWord("OR ")) {
                long first = readKey(around + 1);
                need(' ');
                return first | readKey(around + 1);
            }
            if (takeSign('(')) {
                long places = readSearch(around + 1);
                need(')');
                return places;
            }
            return readSet(false);
        }

        private long readSet(boolean byNumber) {
            long places = 0;
            boolean more = true;
            for (int i = 0; i < MOST_TYPED && more; i++) {
                int first = readPoint(byNumber);
                int second = takeSign(':') ? readPoint(byNumber) : first;
                places |= view.between(Math.min(first, second), Math.max(first, second), byNumber);
                more = takeSign(',');
            }
            return places;
        }

        private int readPoint(boolean byNumber) {
            int point = 0;
            if (takeSign('*')) {
                point = view.last(byNumber);
            } else {
                int digits = 0;
                for (int i = 0; i < MOST_DIGITS && sign() >= '0' && sign() <= '9'; i++) {
                    point = point * 10 + sign() - '0';
                    at++;
                    digits++;
                }
                if (digits == 0) {
                    bad = true;
                }
            }
            if (!byNumber && (point == 0 || point > view.count)) {
                wrong = true;
            }
            return point;
        }

        /** The sign that comes next, 0 at the line's end. */
        private char sign() {
            return at < length ? line[at] : (char) 0;
        }

        private boolean takeSign(char wanted) {
            if (at < length && line[at] == wanted) {
                at++;
                return true;
            }
            return false;
        }

        private void need(char wanted) {
            if (!takeSign(wanted)) {
                bad = true;
            }
        }

        private boolean takeWord(String word) {
            if (word.length() > length - at) {
                return false;
            }
            for (int i = 0; i < word.length(); i++) {
                if (line[at + i] != word.charAt(i)) {
                    return false;
                }
            }
            at += word.length();
            return true;
        }
    }
}

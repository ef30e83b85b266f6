import java.util.ArrayList;

/**
 * A desk for addresses and what servers answer there. The numbered promises of the document say what
 * each call does; words in capitals (THE TAPE, ADDRESS, KEPT, ..) are the document's terms.
 */
public final class NetDesk {
    public static final int NONE = -1;

    private static final int MOST_ON_TAPE = 2000;
    private static final int BYTES_A_FEED = 20;
    private static final int WRONG = -1000;
    private static final int MOST_ANSWERS = 12;
    private static final int MOST_FOLLOWED = 5;
    private static final int MOST_TICK = 1000;

    private final StringBuilder tape;
    private final StringBuilder written;
    private final Address home;
    private final Answer empty;
    private final ArrayList<Answer> answers;
    private final Jar jar;
    private final Keep keep;
    private final StringBuilder requestCookies;
    private Address theBase;
    private int clock;
    private int requests;
    private Address requestAt;
    private Answer came;
    private Address cameFrom;
    private String firstMark;
    private int followed;
    private boolean cameKept;

    public NetDesk() {
        tape = new StringBuilder();
        written = new StringBuilder();
        home = new Address("home", "/", "", "");
        empty = new Answer(home, new Fields(), "");
        answers = new ArrayList<>();
        jar = new Jar();
        keep = new Keep();
        requestCookies = new StringBuilder();
        theBase = home;
        clock = 0;
        requests = 0;
        requestAt = null;
        came = empty;
        cameFrom = null;
        firstMark = "";
        followed = 0;
        cameKept = false;
    }

    public int feed(int a, int b, int c, int d, int e) {
        if (tape.length() > MOST_ON_TAPE - BYTES_A_FEED) {
            return NONE;
        }
        addWord(a);
        addWord(b);
        addWord(c);
        addWord(d);
        addWord(e);
        return tape.length();
    }

    public int end(int n) {
        if (n < 0 || n > tape.length()) {
            return NONE;
        }
        tape.setLength(n);
        return n;
    }

    public int out(int i) {
        if (i < 0 || i >= written.length()) {
            return NONE;
        }
        return written.charAt(i);
    }

    public int resolve() {
        String text = takeText();
        int bad = Texts.badByte(text);
        if (bad != NONE) {
            return WRONG - bad;
        }
        Address address = Address.read(text, theBase);
        if (address == null) {
            return NONE;
        }
        return writeAddress(address, address.mark);
    }

    public int base() {
        String text = takeText();
        int bad = Texts.badByte(text);
        if (bad != NONE) {
            return WRONG - bad;
        }
        Address address = Address.read(text, theBase);
        if (address == null) {
            return NONE;
        }
        theBase = address;
        return address.segments();
    }

    public int server() {
        String text = takeText();
        int bad = Texts.badByte(text);
        if (bad != NONE) {
            return WRONG - bad;
        }
        ServerText reader = new ServerText(text, home);
        int wrong = reader.firstWrong();
        if (wrong != NONE) {
            return WRONG - wrong;
        }
        Answer answer = new Answer(reader.at, reader.fields, reader.content);
        int old = placeOfAnswer(answer.at);
        if (old != NONE) {
            answers.set(old, answer);
        } else if (answers.size() < MOST_ANSWERS) {
            answers.add(answer);
        } else {
            return NONE;
        }
        return answers.size();
    }

    public int fetch() {
        String text = takeText();
        int bad = Texts.badByte(text);
        if (bad != NONE) {
            return WRONG - bad;
        }
        Address first = Address.read(text, theBase);
        if (first == null) {
            return NONE;
        }
        follow(first);
        return came.content.length();
    }

    public int body(int i) {
        if (i < 0 || i >= came.content.length()) {
            return NONE;
        }
        return came.content.charAt(i);
    }

    public int tick(int n) {
        if (n < 0 || n > MOST_TICK) {
            return NONE;
        }
        clock += n;
        return clock;
    }

    public int forget() {
        String text = takeText();
        int bad = Texts.badByte(text);
        if (bad != NONE) {
            return WRONG - bad;
        }
        int wrong = Texts.noNameAt(text);
        if (wrong != NONE) {
            return WRONG - wrong;
        }
        return jar.dropLast(text);
    }

    public int write(int what) {
        switch (what) {
            case 0:
                return writeAddress(theBase, theBase.mark);
            case 1:
                return writeAddress(requestAt, "");
            case 2:
                written.setLength(0);
                written.append(requestCookies.toString());
                return written.length();
            case 3:
                return writeAddress(cameFrom, firstMark);
            default:
                return NONE;
        }
    }

    public int count(int what) {
        switch (what) {
            case 0:
                return answers.size();
            case 1:
                return jar.size();
            case 2:
                return keep.size();
            case 3:
                return requests;
            case 4:
                return clock;
            case 5:
                return followed;
            case 6:
                return came.open ? 1 : 0;
            case 7:
                return cameKept ? 1 : 0;
            default:
                return NONE;
        }
    }

    private void addWord(int word) {
        for (int shift = 24; shift >= 0; shift -= 8) {
            tape.append((char) ((word >>> shift) & 255));
        }
    }

    private String takeText() {
        String text = tape.toString();
        tape.setLength(0);
        return text;
    }

    private int writeAddress(Address address, String mark) {
        written.setLength(0);
        if (address != null) {
            address.appendTo(written);
            written.append(mark);
        }
        return written.length();
    }

    private int placeOfAnswer(Address at) {
        for (int i = 0; i < answers.size(); i++) {
            if (answers.get(i).at.isSamePlace(at)) {
                return i;
            }
        }
        return NONE;
    }

    private void follow(Address first) {
        Address at = first;
        Answer answer = answerFrom(at);
        followed = 0;
        for (int i = 0; i < MOST_FOLLOWED && answer.to != null; i++) {
            at = answer.to;
            answer = answerFrom(at);
            followed++;
        }
        // An answer with the sixth to was asked for as any other, but nothing of it comes.
        came = answer.to == null ? answer : empty;
        cameFrom = at;
        firstMark = first.mark;
    }

    private Answer answerFrom(Address at) {
        Answer fresh = keep.fresh(at, clock);
        cameKept = fresh != null;
        if (fresh != null) {
            return fresh;
        }
        return request(at);
    }

    private Answer request(Address at) {
        requests++;
        requestAt = at;
        requestCookies.setLength(0);
        jar.tell(at.site, requestCookies);
        int place = placeOfAnswer(at);
        if (place == NONE) {
            return empty;
        }
        Answer answer = answers.get(place);
        if (!answer.cookieName.isEmpty()) {
            jar.put(new Cookie(at.site, answer.cookieName, answer.cookieValue));
        }
        if (answer.age > 0) {
            keep.put(new Kept(answer, clock + answer.age));
        }
        return answer;
    }

    /** What the document says of bytes, NAMES and NUMBERS. */
    private static final class Texts {
        private static final int MOST_IN_NAME = 8;
        private static final int MOST_IN_NUMBER = 4;

        private Texts() {
        }

        /** The first place of a byte that no text may have, or NONE. */
        static int badByte(String text) {
            for (int i = 0; i < text.length(); i++) {
                char c = text.charAt(i);
                if (c != '\n' && (c < 32 || c > 126)) {
                    return i;
                }
            }
            return NONE;
        }

        /** The first place at which the text can't go on to be a NAME, or NONE if it is one. */
        static int noNameAt(String text) {
            for (int i = 0; i < text.length(); i++) {
                char c = text.charAt(i);
                boolean fits = isSmallLetter(c) || (i > 0 && isDigit(c));
                if (!fits || i >= MOST_IN_NAME) {
                    return i;
                }
            }
            return text.isEmpty() ? 0 : NONE;
        }

        static boolean isName(String text) {
            return noNameAt(text) == NONE;
        }

        static boolean isNumber(String text) {
            if (text.isEmpty() || text.length() > MOST_IN_NUMBER) {
                return false;
            }
            for (int i = 0; i < text.length(); i++) {
                if (!isDigit(text.charAt(i))) {
                    return false;
                }
            }
            return true;
        }

        /** What a NUMBER tells: its four digits at most can't go beyond an int. */
        static int number(String digits) {
            int value = 0;
            for (int i = 0; i < digits.length(); i++) {
                value = value * 10 + (digits.charAt(i) - '0');
            }
            return value;
        }

        /** Are there small letters, digits and bytes of signs alone? */
        static boolean hasOnly(String text, String signs) {
            for (int i = 0; i < text.length(); i++) {
                char c = text.charAt(i);
                if (!isSmallLetter(c) && !isDigit(c) && signs.indexOf(c) < 0) {
                    return false;
                }
            }
            return true;
        }

        static boolean begins(String text, String head) {
            return text.length() >= head.length() && text.substring(0, head.length()).equals(head);
        }

        private static boolean isSmallLetter(char c) {
            return c >= 'a' && c <= 'z';
        }

        private static boolean isDigit(char c) {
            return c >= '0' && c <= '9';
        }
    }

    /**
     * An ADDRESS. The parts keep the sign ahead of them (/ of each SEGMENT, ? and #), so that an empty text
     * is a part that is not there, and a lone ? is a QUERY of no bytes.
     */
    private static final class Address {
        private static final int MOST_IN_QUERY = 40;
        private static final String QUERY_SIGNS = ".-_=&+";

        final String site;
        final String path;
        final String query;
        final String mark;

        Address(String site, String path, String query, String mark) {
            this.site = site;
            this.path = path;
            this.query = query;
            this.mark = mark;
        }

        /** The ADDRESS that a REFERENCE is against another one; null if it is NO ADDRESS. */
        static Address read(String text, Address against) {
            int markAt = placeOrLength(text, '#');
            int queryAt = Math.min(placeOrLength(text, '?'), markAt);
            String head = text.substring(0, queryAt);
            String query = text.substring(queryAt, markAt);
            String mark = text.substring(markAt);
            if (!isQuery(query) || (!mark.isEmpty() && !Texts.isName(mark.substring(1)))) {
                return null;
            }
            if (head.isEmpty()) {
                return new Address(against.site, against.path, query.isEmpty() ? against.query : query, mark);
            }
            String site = against.site;
            String segments = head;
            Path path = new Path();
            if (Texts.begins(head, "//")) {
                String rest = head.substring(2);
                int siteEnd = placeOrLength(rest, '/');
                site = rest.substring(0, siteEnd);
                segments = siteEnd < rest.length() ? rest.substring(siteEnd + 1) : "";
            } else if (Texts.begins(head, "/")) {
                segments = head.substring(1);
            } else {
                path.startBeside(against);
            }
            if (!Texts.isName(site) || !path.take(segments)) {
                return null;
            }
            return new Address(site, path.joined.toString(), query, mark);
        }

        /** The MARK is of no matter to servers. */
        boolean isSamePlace(Address other) {
            return site.equals(other.site) && path.equals(other.path) && query.equals(other.query);
        }

        int segments() {
            int slashes = 0;
            for (int i = 0; i < path.length(); i++) {
                if (path.charAt(i) == '/') {
                    slashes++;
                }
            }
            return slashes;
        }

        /** All but the MARK: which one goes behind it is the caller's to say. */
        void appendTo(StringBuilder target) {
            target.append("//");
            target.append(site);
            target.append(path);
            target.append(query);
        }

        private static int placeOrLength(String text, char sign) {
            int place = text.indexOf(sign);
            return place < 0 ? text.length() : place;
        }

        private static boolean isQuery(String part) {
            return part.isEmpty()
                || (part.length() <= MOST_IN_QUERY + 1 && Texts.hasOnly(part.substring(1), QUERY_SIGNS));
        }
    }

    /** A PATH while it is read: SEGMENTS come and go at its end. */
    private static final class Path {
        private static final int MOST_SEGMENTS = 6;
        private static final int MOST_IN_SEGMENT = 12;
        private static final String PATH_SIGNS = "/.-_";

        final StringBuilder joined = new StringBuilder();
        private int size = 0;

        /** The PATH of the ADDRESS without its last SEGMENT. */
        void startBeside(Address address) {
            joined.append(address.path);
            size = address.segments();
            pop();
        }

        /** Takes SEGMENTS with / between: false if they can't be read, or are too many behind all that goes. */
        boolean take(String segments) {
            if (!Texts.hasOnly(segments, PATH_SIGNS)) {
                return false;
            }
            int start = 0;
            for (int i = 0; i <= segments.length(); i++) {
                boolean isEnd = i == segments.length();
                if (isEnd || segments.charAt(i) == '/') {
                    if (!takeOne(segments.substring(start, i), isEnd)) {
                        return false;
                    }
                    start = i + 1;
                }
            }
            return size <= MOST_SEGMENTS;
        }

        private boolean takeOne(String segment, boolean isLast) {
            if (segment.length() > MOST_IN_SEGMENT) {
                return false;
            }
            boolean goesUp = segment.equals("..");
            if (goesUp) {
                pop();
            }
            if (!goesUp && !segment.equals(".")) {
                push(segment);
            } else if (isLast) {
                push("");
            }
            return true;
        }

        private void push(String segment) {
            joined.append('/');
            joined.append(segment);
            size++;
        }

        private void pop() {
            if (joined.length() == 0) {
                return;
            }
            int cut = joined.length() - 1;
            while (cut > 0 && joined.charAt(cut) != '/') {
                cut--;
            }
            joined.setLength(cut);
            size--;
        }
    }

    /** The FIELDS of an ANSWER, as they are read: each at most once. */
    private static final class Fields {
        private boolean hasAge = false;
        int age = 0;
        String cookieName = "";
        String cookieValue = "";
        Address to = null;
        boolean open = false;

        /** Takes one FIELD; false if it is none, or stands twice. */
        boolean take(String field, Address at) {
            if (field.equals("open")) {
                boolean isNew = !open;
                open = true;
                return isNew;
            }
            if (Texts.begins(field, "age=")) {
                return takeAge(field.substring(4));
            }
            if (Texts.begins(field, "cookie=")) {
                return takeCookie(field.substring(7));
            }
            if (Texts.begins(field, "to=") && to == null) {
                to = Address.read(field.substring(3), at);
                return to != null;
            }
            return false;
        }

        private boolean takeAge(String text) {
            if (hasAge || !Texts.isNumber(text)) {
                return false;
            }
            hasAge = true;
            age = Texts.number(text);
            return true;
        }

        private boolean takeCookie(String text) {
            int colon = text.indexOf(':');
            if (!cookieName.isEmpty() || colon < 0) {
                return false;
            }
            String name = text.substring(0, colon);
            String value = text.substring(colon + 1);
            if (!Texts.isName(name) || !Texts.isName(value)) {
                return false;
            }
            cookieName = name;
            cookieValue = value;
            return true;
        }
    }

    /** An ANSWER, never changed: one that is KEPT stays what it was when another comes in its place. */
    private static final class Answer {
        final Address at;
        final int age;
        final String cookieName;
        final String cookieValue;
        final Address to;
        final boolean open;
        final String content;

        Answer(Address at, Fields fields, String content) {
            this.at = at;
            this.age = fields.age;
            this.cookieName = fields.cookieName;
            this.cookieValue = fields.cookieValue;
            this.to = fields.to;
            this.open = fields.open;
            this.content = content;
        }
    }

    /** Reads a SERVER TEXT; what it has read counts only if nothing in it is WRONG. */
    private static final class ServerText {
        private static final int MOST_IN_BODY = 1500;

        private final String text;
        final Fields fields = new Fields();
        Address at;
        String content = "";

        ServerText(String text, Address home) {
            this.text = text;
            this.at = home;
        }

        /** Reads it all: the first place at which it is WRONG, or NONE. */
        int firstWrong() {
            int newline = text.indexOf('\n');
            int headEnd = newline < 0 ? text.length() : newline;
            int start = 0;
            for (int i = 0; i <= headEnd; i++) {
                if (i == headEnd || text.charAt(i) == ' ') {
                    String piece = text.substring(start, i);
                    boolean fits = start == 0 ? takeAddress(piece) : fields.take(piece, at);
                    if (!fits) {
                        return start;
                    }
                    start = i + 1;
                }
            }
            if (newline < 0) {
                return text.length();
            }
            content = text.substring(newline + 1);
            return content.length() > MOST_IN_BODY ? newline + 1 + MOST_IN_BODY : NONE;
        }

        private boolean takeAddress(String piece) {
            Address address = Address.read(piece, at);
            if (address == null || !address.mark.isEmpty() || !Texts.begins(piece, "//")) {
                return false;
            }
            at = address;
            return true;
        }
    }

    /** A COOKIE of a SITE. */
    private static final class Cookie {
        final String site;
        final String name;
        final String value;

        Cookie(String site, String name, String value) {
            this.site = site;
            this.name = name;
            this.value = value;
        }
    }

    /** The COOKIES of all SITES, in order as they came. */
    private static final class Jar {
        private static final int MOST_COOKIES = 20;

        private final ArrayList<Cookie> cookies = new ArrayList<>();

        int size() {
            return cookies.size();
        }

        void put(Cookie cookie) {
            for (int i = 0; i < cookies.size(); i++) {
                Cookie old = cookies.get(i);
                if (old.site.equals(cookie.site) && old.name.equals(cookie.name)) {
                    cookies.set(i, cookie);
                    return;
                }
            }
            if (cookies.size() < MOST_COOKIES) {
                cookies.add(cookie);
            }
        }

        /** Writes the SITE's COOKIES to a target that is empty: ; goes ahead of all but the first. */
        void tell(String site, StringBuilder target) {
            for (int i = 0; i < cookies.size(); i++) {
                Cookie cookie = cookies.get(i);
                if (cookie.site.equals(site)) {
                    if (target.length() > 0) {
                        target.append(';');
                    }
                    target.append(cookie.name);
                    target.append('=');
                    target.append(cookie.value);
                }
            }
        }

        /** The SITE's last COOKIE goes: how many it has left; NONE if it had none. */
        int dropLast(String site) {
            int last = NONE;
            int had = 0;
            for (int i = 0; i < cookies.size(); i++) {
                if (cookies.get(i).site.equals(site)) {
                    last = i;
                    had++;
                }
            }
            if (last == NONE) {
                return NONE;
            }
            cookies.remove(last);
            return had - 1;
        }
    }

    /** An ANSWER that is KEPT, fresh while THE CLOCK is below its TIME. */
    private static final class Kept {
        final Answer answer;
        final int time;

        Kept(Answer answer, int time) {
            this.answer = answer;
            this.time = time;
        }
    }

    /** What is KEPT, the one that was KEPT longest ago first. */
    private static final class Keep {
        private static final int MOST_KEPT = 8;

        private final ArrayList<Kept> all = new ArrayList<>();

        int size() {
            return all.size();
        }

        /** The ANSWER that is KEPT for the ADDRESS and still fresh, or null. */
        Answer fresh(Address at, int clock) {
            int place = placeOf(at);
            if (place == NONE || all.get(place).time <= clock) {
                return null;
            }
            return all.get(place).answer;
        }

        void put(Kept kept) {
            int old = placeOf(kept.answer.at);
            if (old != NONE) {
                all.remove(old);
            } else if (all.size() >= MOST_KEPT) {
                all.remove(0);
            }
            all.add(kept);
        }

        private int placeOf(Address at) {
            for (int i = 0; i < all.size(); i++) {
                if (all.get(i).answer.at.isSamePlace(at)) {
                    return i;
                }
            }
            return NONE;
        }
    }
}

import java.util.NoSuchElementException;

/** An almshouse of beds, the owls lent to it, and what they hear by the hour. */
public final class OwlsLent {
    public static final int NONE = -1;

    private static final int MOST_TAPE = 940;
    private static final int MOST_BEDS = 6;
    private static final int MOST_OWLS = 6;
    private static final int MOST_SOUNDS = 8;
    private static final int MOST_WIDE = 9;
    private static final int MOST_LOUD = 30;
    private static final int MOST_FROM = 20;
    private static final int MOST_AT_ONCE = 60;
    private static final int LAST_HOUR = 400;
    private static final int DAY = 24;

    private static final int KINDS = 4;
    private static final int VOICE = 1;
    private static final int SIDES = 4;
    private static final int EAST_SIDE = 0;
    private static final int SOUTH_SIDE = 1;
    private static final int WEST_SIDE = 2;
    private static final int NORTH_SIDE = 3;
    private static final int HERE = 4;

    // Rows stand in the order in which bed(), owl() and sound() ask for them.
    private static final int BED_X = 0;
    private static final int BED_Y = 1;
    private static final int BED_WANTS = 2;
    private static final int OWL_BED = 0;
    private static final int OWL_FROM = 1;
    private static final int OWL_BAD = 2;
    private static final int OWL_DEAF = 3;
    private static final int SOUND_KIND = 0;
    private static final int SOUND_X = 1;
    private static final int SOUND_Y = 2;
    private static final int SOUND_LOUD = 3;
    private static final int SOUND_FROM = 4;
    private static final int SOUND_TILL = 5;

    // The place of a word in WORDS is its number below.
    private static final String WORDS = "house bed owl bad deaf sound wants shut mouse voice road bell east south west north lend hush let shout hour or and not blind told looks by hears knows missed number ";
    private static final int WORD_COUNT = 32;
    private static final int W_HOUSE = 0;
    private static final int W_BED = 1;
    private static final int W_OWL = 2;
    private static final int W_BAD = 3;
    private static final int W_DEAF = 4;
    private static final int W_SOUND = 5;
    private static final int W_WANTS = 6;
    private static final int W_SHUT = 7;
    private static final int W_MOUSE = 8;
    private static final int W_EAST = 12;
    private static final int W_LEND = 16;
    private static final int W_HUSH = 17;
    private static final int W_LET = 18;
    private static final int W_SHOUT = 19;
    private static final int W_HOUR = 20;
    private static final int W_OR = 21;
    private static final int W_AND = 22;
    private static final int W_NOT = 23;
    private static final int W_BLIND = 24;
    private static final int W_TOLD = 25;
    private static final int W_LOOKS = 26;
    private static final int W_BY = 27;
    private static final int W_HEARS = 28;
    private static final int W_KNOWS = 29;
    private static final int W_MISSED = 30;
    private static final int W_NUMBER = 31;

    private static final int CANNOT_COME = 1;
    private static final int BAD_NUMBER = 2;
    private static final int BAD_NAME = 3;
    private static final int TOO_MANY = 4;

    private final Tape tape = new Tape(MOST_TAPE);
    private final Tokens tokens = new Tokens(tape);
    private final Image present = new Image();
    private final Image[] kept = new Image[2];
    private final House houseRead = new House();
    private final Sentence sentenceRead = new Sentence();
    private final Book bookRead = new Book();
    private final State trial = new State();
    private final Undo acts = new Undo();
    private final Spots spotted = new Spots();
    private final Best placed = new Best();
    private final Tape written = new Tape(32);
    private final int[] codes = new int[MOST_SOUNDS];
    private final int[] codesTried = new int[MOST_SOUNDS];
    private int codeCount = 0;
    private int leastKeen = NONE;
    private int mostKeen = NONE;
    private int duelFirst = NONE;
    private int faultKind = 0;

    public OwlsLent() {
        for (int k = 0; k < kept.length; k++) {
            kept[k] = new Image();
        }
    }

    // ---- The tape and the texts ----

    public int feed(int a, int b, int c, int d, int e) {
        if (tape.length + 20 > MOST_TAPE) {
            return NONE;
        }
        tape.addFour(a);
        tape.addFour(b);
        tape.addFour(c);
        tape.addFour(d);
        tape.addFour(e);
        return tape.length;
    }

    public boolean end(int n) {
        if (n < 0 || n > tape.length) {
            return false;
        }
        tape.length = n;
        return true;
    }

    public int house() {
        tokens.start(HouseReader.MOST_BYTES);
        int lines = HouseReader.readAll(tokens, houseRead);
        endText();
        if (faultKind != 0) {
            return -1 - tokens.faultPlace;
        }
        present.begin(houseRead);
        acts.forget();
        return lines;
    }

    public int fault() {
        return faultKind;
    }

    private void endText() {
        tape.length = 0;
        faultKind = tokens.fault;
    }

    // ---- What is so ----

    public int bed(int b, int what) throws NoSuchElementException {
        House h = present.home;
        State s = present.state;
        if (!h.hasBed(b) || what < 0 || what > 5) {
            throw new NoSuchElementException("no such bed, or nothing told of it by that number");
        }
        switch (what) {
            case 0:
                return h.bedRow[b][BED_X];
            case 1:
                return h.bedRow[b][BED_Y];
            case 2:
                return s.owlAt(h, b);
            case 3:
                return h.bedRow[b][BED_WANTS];
            case 4:
                return s.knows[b];
            default:
                return s.misses[b];
        }
    }

    public int owl(int o, int what) throws NoSuchElementException {
        House h = present.home;
        State s = present.state;
        if (!h.hasOwl(o) || what < 0 || what > 5) {
            throw new NoSuchElementException("no such owl, or nothing told of it by that number");
        }
        if (what == 0) {
            return s.owlBed[o];
        }
        if (what <= OWL_DEAF) {
            return h.owlRow[o][what];
        }
        int look = s.lookOf(h, o, s.owlBed[o], 0);
        return what == 5 ? look : s.sideFrom(h, s.owlBed[o], look);
    }

    public int sound(int s, int what) {
        House h = present.home;
        if (!h.hasSound(s) || what < 0 || what > 5) {
            return NONE;
        }
        if (what <= SOUND_LOUD) {
            return h.soundRow[s][what];
        }
        int bits = what == 4 ? present.state.onBits(h, 0) : present.state.hushed;
        return bits >> s & 1;
    }

    public int now(int what) {
        House h = present.home;
        State s = present.state;
        switch (what) {
            case 0:
                return s.hour;
            case 1:
                return s.onBits(h, 0);
            case 2:
                return s.hushed;
            case 3:
                return s.lookingBits(h);
            case 4:
                return h.shutAt(s.hour) ? 1 : 0;
            case 5:
                return State.total(s.knows, h.beds);
            case 6:
                return State.total(s.misses, h.beds);
            case 7:
                return s.shouts;
            default:
                return NONE;
        }
    }

    public int count(int what) {
        House h = present.home;
        switch (what) {
            case 0:
                return h.beds;
            case 1:
                return h.owls;
            case 2:
                return h.sounds;
            case 3:
                return h.wide;
            case 4:
                return h.high;
            case 5:
                return tape.length;
            default:
                return NONE;
        }
    }

    // ---- What is done ----

    public int lend(int o, int b) {
        House h = present.home;
        if (!h.hasOwl(o) || !h.hasBed(b)) {
            return NONE;
        }
        trial.copyFrom(present.state);
        return keepDone(trial.lendTo(h, o, b));
    }

    public int hush(int s) {
        if (!present.home.hasSound(s)) {
            return NONE;
        }
        trial.copyFrom(present.state);
        return keepDone(trial.hushOne(s));
    }

    public int let(int s) {
        if (!present.home.hasSound(s)) {
            return NONE;
        }
        trial.copyFrom(present.state);
        return keepDone(trial.letOne(s));
    }

    public int shout(int x, int y, int loud) {
        if (!present.home.hasCell(x, y) || loud < 1 || loud > MOST_LOUD) {
            return NONE;
        }
        trial.copyFrom(present.state);
        return keepDone(trial.shoutIn(x, y, loud));
    }

    public int hours(int n) {
        if (n < 1 || n > MOST_AT_ONCE) {
            return NONE;
        }
        int gone = Math.min(n, LAST_HOUR - present.state.hour);
        trial.copyFrom(present.state);
        for (int i = 0; i < gone; i++) {
            trial.passHour(present.home);
        }
        if (gone > 0) {
            keepTrial();
        }
        return gone;
    }

    public int drawn(int n, int seed) {
        if (n < 1 || n > MOST_AT_ONCE) {
            return NONE;
        }
        int gone = Math.min(n, LAST_HOUR - present.state.hour);
        trial.copyFrom(present.state);
        trial.passDrawn(present.home, gone, seed);
        if (gone > 0) {
            keepTrial();
        }
        return gone;
    }

    public int undo() {
        return acts.takeBack(present.state);
    }

    private int keepDone(int why) {
        if (why == 0) {
            keepTrial();
        }
        return why;
    }

    private void keepTrial() {
        acts.keep(present.state);
        present.state.copyFrom(trial);
    }

    // ---- What owls hear ----

    public int hears(int o) {
        House h = present.home;
        State s = present.state;
        return h.hasOwl(o) ? s.heardNow(h, o, s.owlBed[o]) : NONE;
    }

    public int would(int o, int b) {
        House h = present.home;
        State s = present.state;
        if (!h.hasOwl(o) || !h.hasBed(b)) {
            return NONE;
        }
        return s.sideFrom(h, b, s.lookOf(h, o, b, 0));
    }

    public int when(int o, int side) {
        House h = present.home;
        State s = present.state;
        if (!h.hasOwl(o) || side < 0 || side > HERE) {
            return NONE;
        }
        int b = s.owlBed[o];
        int most = Math.min(48, LAST_HOUR - s.hour);
        for (int ahead = 0; ahead <= most; ahead++) {
            if (s.sideFrom(h, b, s.lookOf(h, o, b, ahead)) == side) {
                return ahead;
            }
        }
        return NONE;
    }

    public int loud(int s, int b) throws NoSuchElementException {
        House h = present.home;
        if (!h.hasSound(s) || !h.hasBed(b)) {
            throw new NoSuchElementException("no such sound or bed");
        }
        return h.loudAt(b, h.soundRow[s]);
    }

    public int worth(int b, int n) {
        House h = present.home;
        State s = present.state;
        int o = h.hasBed(b) ? s.owlAt(h, b) : NONE;
        if (o == NONE || n < 1 || n > MOST_AT_ONCE) {
            return NONE;
        }
        int most = Math.min(n, LAST_HOUR - s.hour);
        int more = 0;
        for (int ahead = 0; ahead < most; ahead++) {
            int look = s.lookOf(h, o, b, ahead);
            // Without the owl just that one is missed which it looks at with it.
            if (look != NONE && h.loudAt(b, s.rowOf(h, look)) >= State.MISSED_FROM) {
                more++;
            }
        }
        return more;
    }

    // ---- Riddles ----

    public int spots() {
        int cells = spotted.find(tape, present.home, present.state);
        tape.length = 0;
        return cells;
    }

    public int spotAt(int k) {
        return k >= 0 && k < spotted.count ? spotted.cells[k] : NONE;
    }

    public int next() {
        return spotted.nextOwl;
    }

    public int keen() {
        int n = tape.length;
        tape.length = 0;
        if (n < 3 || n > 18 || n % 3 != 0) {
            return NONE;
        }
        int least = 1;
        int most = MOST_FROM;
        for (int i = 0; i + 2 < n; i += 3) {
            // Only the third byte has bounds here: how loud and how far may be any.
            int loudness = tape.at(i) - tape.at(i + 1);
            int looked = tape.at(i + 2);
            if (looked > 1) {
                return NONE;
            }
            if (looked == 1) {
                most = Math.min(most, loudness);
            } else {
                least = Math.max(least, loudness + 1);
            }
        }
        if (most < least) {
            return 0;
        }
        leastKeen = least;
        mostKeen = most;
        return most - least + 1;
    }

    public int keenLeast() {
        return leastKeen;
    }

    public int keenMost() {
        return mostKeen;
    }

    public int best() {
        return placed.find(present.home, present.state);
    }

    public int bestAt(int o) {
        return o >= 0 && o < placed.owls ? placed.found[o] : NONE;
    }

    public int code(int o) {
        int n = tape.length;
        tape.length = 0;
        if (!present.home.hasOwl(o) || n < 1 || n > codesTried.length) {
            return NONE;
        }
        for (int i = 0; i < n; i++) {
            if (tape.at(i) > HERE) {
                return NONE;
            }
        }
        for (int i = 0; i < n; i++) {
            codesTried[i] = soundOnSide(o, tape.at(i));
            if (codesTried[i] == NONE) {
                return -2 - i;
            }
        }
        System.arraycopy(codesTried, 0, codes, 0, n);
        codeCount = n;
        return n;
    }

    public int codeAt(int k) {
        return k >= 0 && k < codeCount ? codes[k] : NONE;
    }

    private int soundOnSide(int o, int side) {
        House h = present.home;
        int b = present.state.owlBed[o];
        for (int s = 0; s < h.sounds; s++) {
            if (h.heardSide(o, b, h.soundRow[s]) == side) {
                return s;
            }
        }
        return NONE;
    }

    public int duel(int o, int side, int n) {
        House h = present.home;
        State s = present.state;
        if (!h.hasOwl(o) || side < 0 || side > HERE || n < 1 || n > 4) {
            return NONE;
        }
        duelFirst = NONE;
        int heard = s.heardNow(h, o, s.owlBed[o]);
        int free = (1 << h.sounds) - 1 & ~s.hushed;
        if (endsOn(present, o, side, n - 1, heard, free, false)) {
            return 1;
        }
        for (int i = 0; i < h.sounds; i++) {
            int left = ~(1 << i);
            if ((free >> i & 1) == 1 && endsOn(present, o, side, n - 1, heard & left, free & left, false)) {
                duelFirst = i;
                return 1;
            }
        }
        return 0;
    }

    /** Whether the owl looks to the side behind all moves, if both play as well as may be. */
    private static boolean endsOn(Image all, int o, int side, int moves, int heard, int free, boolean firstMoves) {
        House h = all.home;
        if (moves <= 0) {
            int b = all.state.owlBed[o];
            return all.state.sideFrom(h, b, all.state.loudest(h, b, heard)) == side;
        }
        if (endsOn(all, o, side, moves - 1, heard, free, !firstMoves) == firstMoves) {
            return firstMoves;
        }
        for (int i = 0; i < h.sounds; i++) {
            int left = ~(1 << i);
            if ((free >> i & 1) == 1
                    && endsOn(all, o, side, moves - 1, heard & left, free & left, !firstMoves) == firstMoves) {
                return firstMoves;
            }
        }
        return !firstMoves;
    }

    public int duelAt() {
        return duelFirst;
    }

    public int odds(int b, int n, int seed) {
        if (!present.home.hasBed(b) || n < 1 || n > 30) {
            return NONE;
        }
        int most = Math.min(12, LAST_HOUR - present.state.hour);
        int good = 0;
        for (int i = 0; i < n; i++) {
            trial.copyFrom(present.state);
            trial.passDrawn(present.home, most, seed + i);
            if (trial.misses[b] == present.state.misses[b]) {
                good++;
            }
        }
        return good;
    }

    // ---- Notes ----

    public int note(int b) {
        House h = present.home;
        State s = present.state;
        if (!h.hasBed(b)) {
            return NONE;
        }
        int o = s.owlAt(h, b);
        written.length = 0;
        written.addName(h.bedName[b]);
        if (o == NONE) {
            written.addText(" alone");
            return written.length;
        }
        written.addText(" ");
        written.addName(h.owlName[o]);
        int side = s.sideFrom(h, b, s.lookOf(h, o, b, 0));
        if (h.shutAt(s.hour)) {
            written.addText(" shut");
        } else if (side == NONE) {
            written.addText(" sleeps");
        } else if (side == HERE) {
            written.addText(" looks here");
        } else {
            written.addText(" looks ");
            written.addName(tokens.reserved[W_EAST + side]);
        }
        return written.length;
    }

    public int byteAt(int i) {
        return i >= 0 && i < written.length ? written.at(i) : NONE;
    }

    // ---- Books and sentences ----

    public int book(int lives) {
        if (lives != 0 && lives != 1) {
            return -1000;
        }
        tokens.start(Book.MOST_BYTES);
        bookRead.readAll(tokens, present.home);
        endText();
        if (faultKind != 0) {
            return -2 - tokens.faultPlace;
        }
        trial.copyFrom(present.state);
        bookRead.live(present.home, trial);
        if (lives == 1 && bookRead.ahead > 0) {
            keepTrial();
        }
        return bookRead.why == 0 ? NONE : bookRead.ahead;
    }

    public int told(int what) {
        if (!bookRead.judged) {
            return NONE;
        }
        switch (what) {
            case 0:
                return bookRead.why;
            case 1:
                return bookRead.ahead;
            case 2:
                return bookRead.hourThen;
            case 3:
                return bookRead.lookingThen;
            default:
                return NONE;
        }
    }

    public int sentence() {
        tokens.start(Sentence.MOST_BYTES);
        sentenceRead.readAll(tokens, present.home);
        endText();
        if (faultKind != 0) {
            return -1 - tokens.faultPlace;
        }
        present.saying.copyFrom(sentenceRead);
        return sentenceRead.ones;
    }

    public int said(int k) {
        House h = present.home;
        if (!present.saying.is || k < NONE) {
            return NONE;
        }
        int found = 0;
        for (int b = 0; b < h.beds; b++) {
            if (present.saying.holds(h, present.state, b)) {
                if (found == k) {
                    return b;
                }
                found++;
            }
        }
        return k == NONE ? found : NONE;
    }

    // ---- Images ----

    public boolean image(int k) {
        if (k < 0 || k >= kept.length) {
            return false;
        }
        kept[k].copyFrom(present);
        return true;
    }

    public boolean restore(int k) {
        if (k < 0 || k >= kept.length || !kept[k].is) {
            return false;
        }
        present.copyFrom(kept[k]);
        acts.forget();
        return true;
    }

    /** Bytes behind one another, up to so many. */
    private static final class Tape {
        private final int[] bytes;
        private int length = 0;

        Tape(int most) {
            bytes = new int[Math.max(0, most)];
        }

        int at(int i) {
            return i >= 0 && i < bytes.length ? bytes[i] : 0;
        }

        void add(int b) {
            if (length < bytes.length) {
                bytes[length] = b & 255;
                length++;
            }
        }

        void addFour(int number) {
            for (int shift = 24; shift >= 0; shift -= 8) {
                add(number >>> shift);
            }
        }

        void addText(String text) {
            for (int i = 0; i < text.length(); i++) {
                add(text.charAt(i));
            }
        }

        void addName(long name) {
            for (int shift = 30; shift >= 0; shift -= 5) {
                int letter = (int) (name >> shift) & 31;
                if (letter != 0) {
                    add('a' + letter - 1);
                }
            }
        }
    }

    /** The tokens of a text, one at a time, and the first fault along it. */
    private static final class Tokens {
        private static final int THE_END = 0;
        private static final int NO_TOKEN = 1;
        private static final int WORD = 2;
        private static final int NUMERAL = 3;
        private static final int SIGN = 4;

        private final Tape tape;
        /** Words with a meaning of their own, five bits a letter, as names are. */
        private final long[] reserved = new long[WORD_COUNT];
        private int most = 0;
        private int next = 0;
        private int kind = THE_END;
        private int place = 0;
        private int placeBehind = 0;
        private int value = 0;
        private int word = NONE;
        private long name = 0;
        private int fault = 0;
        private int faultPlace = 0;

        Tokens(Tape text) {
            tape = text;
            int w = 0;
            for (int i = 0; i < WORDS.length() && w < reserved.length; i++) {
                char c = WORDS.charAt(i);
                if (c == ' ') {
                    w++;
                } else {
                    reserved[w] = reserved[w] * 32 + (c - 'a' + 1);
                }
            }
        }

        void start(int mostBytes) {
            most = mostBytes;
            next = 0;
            place = 0;
            fault = 0;
            faultPlace = 0;
            advance();
        }

        void advance() {
            placeBehind = place;
            word = NONE;
            while (next < tape.length && (tape.at(next) == ' ' || tape.at(next) == '\n')) {
                next++;
            }
            if (next >= most && tape.length > most) {
                kind = NO_TOKEN;
                place = most;
                return;
            }
            place = next;
            if (next >= tape.length) {
                kind = THE_END;
                return;
            }
            int c = tape.at(next);
            if (c >= 'a' && c <= 'z' || c >= '0' && c <= '9') {
                readRun();
                return;
            }
            next++;
            value = c;
            kind = c == ';' || c >= '<' && c <= '>' || c == '(' || c == ')' || c == '.' ? SIGN : NO_TOKEN;
        }

        /** Letters and digits that stand together are one token, or none. */
        private void readRun() {
            int letters = 0;
            int digits = 0;
            value = 0;
            name = 0;
            for (; next < tape.length; next++) {
                int c = tape.at(next);
                if (c >= 'a' && c <= 'z') {
                    letters++;
                    name = name * 32 + (c - 'a' + 1);
                } else if (c >= '0' && c <= '9') {
                    digits++;
                    value = value * 10 + (c - '0');
                } else {
                    break;
                }
            }
            if (digits == 0 && letters <= 7) {
                kind = WORD;
                word = numberOf(reserved, WORD_COUNT, name);
            } else {
                kind = letters == 0 && digits <= 3 ? NUMERAL : NO_TOKEN;
            }
        }

        static int numberOf(long[] names, int count, long wanted) {
            for (int i = 0; i < count && i < names.length; i++) {
                if (names[i] == wanted) {
                    return i;
                }
            }
            return NONE;
        }

        /** Always false, so that a reader can answer with it. */
        boolean fail(int faultKind) {
            return failAt(faultKind, place);
        }

        /** As fail(), at the token that was read latest. */
        boolean failBehind(int faultKind) {
            return failAt(faultKind, placeBehind);
        }

        private boolean failAt(int faultKind, int where) {
            if (fault == 0) {
                fault = faultKind;
                faultPlace = where;
            }
            return false;
        }

        boolean isSign(char sign) {
            return kind == SIGN && value == sign;
        }

        boolean skipSign(char sign) {
            if (!isSign(sign)) {
                return fail(CANNOT_COME);
            }
            advance();
            return true;
        }

        /** A number from least to greatest, or NONE with a fault. */
        int takeNumber(int least, int greatest) {
            int number = value;
            if (kind != NUMERAL || number < least || number > greatest) {
                fail(kind != NUMERAL ? CANNOT_COME : BAD_NUMBER);
                return NONE;
            }
            advance();
            return number;
        }

        /** Which of so many reserved words from the first on, or NONE with a fault. */
        int takeWord(int first, int count) {
            int which = word - first;
            if (word == NONE || which < 0 || which >= count) {
                fail(CANNOT_COME);
                return NONE;
            }
            advance();
            return which;
        }

        /** A name that the house has not yet, or NONE with a fault. */
        long takeNewName(House h) {
            long fresh = name;
            if (kind != WORD || word != NONE || h.hasName(fresh)) {
                fail(kind != WORD || word != NONE ? CANNOT_COME : BAD_NAME);
                return NONE;
            }
            advance();
            return fresh;
        }

        /** The number of one of these names, or NONE with a fault. */
        int takeKnown(long[] names, int count) {
            if (kind != WORD || word != NONE) {
                fail(CANNOT_COME);
                return NONE;
            }
            int which = numberOf(names, count, name);
            if (which == NONE) {
                fail(BAD_NAME);
                return NONE;
            }
            advance();
            return which;
        }
    }

    /** What the text of a house tells: it stays as it is while hours go. */
    private static final class House {
        private int wide = 6;
        private int high = 6;
        private int shutFrom = 6;
        private int shutTill = 17;
        /** What is told once alone counts while a text is read: no copy has it. */
        private boolean sized = false;
        private boolean shutTold = false;
        private int beds = 0;
        private int owls = 0;
        private int sounds = 0;
        private final long[] bedName = new long[MOST_BEDS];
        private final long[] owlName = new long[MOST_OWLS];
        private final long[] soundName = new long[MOST_SOUNDS];
        private final int[][] bedRow = new int[MOST_BEDS][3];
        private final int[][] owlRow = new int[MOST_OWLS][4];
        private final int[][] soundRow = new int[MOST_SOUNDS][6];

        void clear() {
            wide = 6;
            high = 6;
            shutFrom = 6;
            shutTill = 17;
            sized = false;
            shutTold = false;
            beds = 0;
            owls = 0;
            sounds = 0;
        }

        void copyFrom(House other) {
            wide = other.wide;
            high = other.high;
            shutFrom = other.shutFrom;
            shutTill = other.shutTill;
            beds = other.beds;
            owls = other.owls;
            sounds = other.sounds;
            System.arraycopy(other.bedName, 0, bedName, 0, MOST_BEDS);
            System.arraycopy(other.owlName, 0, owlName, 0, MOST_OWLS);
            System.arraycopy(other.soundName, 0, soundName, 0, MOST_SOUNDS);
            copyRows(other.bedRow, bedRow);
            copyRows(other.owlRow, owlRow);
            copyRows(other.soundRow, soundRow);
        }

        private static void copyRows(int[][] from, int[][] to) {
            for (int i = 0; i < from.length && i < to.length; i++) {
                System.arraycopy(from[i], 0, to[i], 0, Math.min(from[i].length, to[i].length));
            }
        }

        boolean hasBed(int b) {
            return b >= 0 && b < beds;
        }

        boolean hasOwl(int o) {
            return o >= 0 && o < owls;
        }

        boolean hasSound(int s) {
            return s >= 0 && s < sounds;
        }

        boolean hasCell(int x, int y) {
            return x >= 0 && x < wide && y >= 0 && y < high;
        }

        boolean hasName(long name) {
            return Tokens.numberOf(bedName, beds, name) != NONE
                || Tokens.numberOf(owlName, owls, name) != NONE
                || Tokens.numberOf(soundName, sounds, name) != NONE;
        }

        boolean hasBedIn(int x, int y) {
            for (int b = 0; b < beds; b++) {
                if (bedRow[b][BED_X] == x && bedRow[b][BED_Y] == y) {
                    return true;
                }
            }
            return false;
        }

        boolean hasOwlBy(int bed) {
            for (int o = 0; o < owls; o++) {
                if (owlRow[o][OWL_BED] == bed) {
                    return true;
                }
            }
            return false;
        }

        static boolean within(int from, int till, int hour) {
            int h = hour % DAY;
            return from <= till ? h >= from && h <= till : h >= from || h <= till;
        }

        boolean shutAt(int hour) {
            return within(shutFrom, shutTill, hour);
        }

        int loudAt(int b, int[] source) {
            int dx = source[SOUND_X] - bedRow[b][BED_X];
            int dy = source[SOUND_Y] - bedRow[b][BED_Y];
            return source[SOUND_LOUD] - (dx < 0 ? -dx : dx) - (dy < 0 ? -dy : dy);
        }

        int sideAt(int b, int[] source) {
            int dx = source[SOUND_X] - bedRow[b][BED_X];
            int dy = source[SOUND_Y] - bedRow[b][BED_Y];
            if (dx == 0 && dy == 0) {
                return HERE;
            }
            if ((dx < 0 ? -dx : dx) >= (dy < 0 ? -dy : dy)) {
                return dx > 0 ? EAST_SIDE : WEST_SIDE;
            }
            return dy > 0 ? SOUTH_SIDE : NORTH_SIDE;
        }

        /** The side on which an owl that is not shut hears this at a bed; NONE: it does not. */
        int heardSide(int o, int b, int[] source) {
            int side = sideAt(b, source);
            boolean deaf = (owlRow[o][OWL_DEAF] >> source[SOUND_KIND] & 1) == 1;
            if (deaf || side == owlRow[o][OWL_BAD] || loudAt(b, source) < owlRow[o][OWL_FROM]) {
                return NONE;
            }
            return side;
        }
    }

    /** Reads the text of a house, line by line. */
    private static final class HouseReader {
        private static final int MOST_BYTES = 900;

        /** How many lines, or NONE with a fault. */
        static int readAll(Tokens t, House h) {
            h.clear();
            for (int lines = 0; lines <= MOST_BYTES; lines++) {
                if (t.kind == Tokens.THE_END) {
                    return lines;
                }
                boolean good;
                switch (t.word) {
                    case W_HOUSE:
                        good = readHouse(t, h);
                        break;
                    case W_BED:
                        good = readBed(t, h);
                        break;
                    case W_OWL:
                        good = readOwl(t, h);
                        break;
                    case W_BAD:
                        good = readBad(t, h);
                        break;
                    case W_DEAF:
                        good = readDeaf(t, h);
                        break;
                    case W_SOUND:
                        good = readSound(t, h);
                        break;
                    case W_WANTS:
                        good = readWants(t, h);
                        break;
                    case W_SHUT:
                        good = readShut(t, h);
                        break;
                    default:
                        good = t.fail(CANNOT_COME);
                        break;
                }
                if (!good || !t.skipSign(';')) {
                    return NONE;
                }
            }
            return NONE;
        }

        private static boolean readHouse(Tokens t, House h) {
            if (h.sized || h.beds > 0 || h.sounds > 0) {
                return t.fail(BAD_NAME);
            }
            t.advance();
            int wide = t.takeNumber(2, MOST_WIDE);
            int high = wide == NONE ? NONE : t.takeNumber(2, MOST_WIDE);
            if (high == NONE) {
                return false;
            }
            h.wide = wide;
            h.high = high;
            h.sized = true;
            return true;
        }

        private static boolean readBed(Tokens t, House h) {
            int b = h.beds;
            if (b >= MOST_BEDS) {
                return t.fail(TOO_MANY);
            }
            t.advance();
            long name = t.takeNewName(h);
            int x = name == NONE ? NONE : t.takeNumber(0, h.wide - 1);
            int y = x == NONE ? NONE : t.takeNumber(0, h.high - 1);
            if (y == NONE) {
                return false;
            }
            if (h.hasBedIn(x, y)) {
                return t.failBehind(BAD_NAME);
            }
            h.bedName[b] = name;
            h.bedRow[b][BED_X] = x;
            h.bedRow[b][BED_Y] = y;
            h.bedRow[b][BED_WANTS] = NONE;
            h.beds = b + 1;
            return true;
        }

        private static boolean readOwl(Tokens t, House h) {
            int o = h.owls;
            if (o >= MOST_OWLS) {
                return t.fail(TOO_MANY);
            }
            t.advance();
            long name = t.takeNewName(h);
            int bed = name == NONE ? NONE : t.takeKnown(h.bedName, h.beds);
            if (bed == NONE) {
                return false;
            }
            if (h.hasOwlBy(bed)) {
                return t.failBehind(BAD_NAME);
            }
            int from = t.takeNumber(1, MOST_FROM);
            if (from == NONE) {
                return false;
            }
            h.owlName[o] = name;
            h.owlRow[o][OWL_BED] = bed;
            h.owlRow[o][OWL_FROM] = from;
            h.owlRow[o][OWL_BAD] = NONE;
            h.owlRow[o][OWL_DEAF] = 0;
            h.owls = o + 1;
            return true;
        }

        private static boolean readBad(Tokens t, House h) {
            t.advance();
            int o = t.takeKnown(h.owlName, h.owls);
            if (o == NONE) {
                return false;
            }
            if (h.owlRow[o][OWL_BAD] != NONE) {
                return t.failBehind(BAD_NAME);
            }
            h.owlRow[o][OWL_BAD] = t.takeWord(W_EAST, SIDES);
            return h.owlRow[o][OWL_BAD] != NONE;
        }

        private static boolean readDeaf(Tokens t, House h) {
            t.advance();
            int o = t.takeKnown(h.owlName, h.owls);
            int kind = o == NONE ? NONE : t.takeWord(W_MOUSE, KINDS);
            if (kind == NONE) {
                return false;
            }
            if ((h.owlRow[o][OWL_DEAF] >> kind & 1) == 1) {
                return t.failBehind(BAD_NAME);
            }
            h.owlRow[o][OWL_DEAF] |= 1 << kind;
            return true;
        }

        private static boolean readSound(Tokens t, House h) {
            int s = h.sounds;
            if (s >= MOST_SOUNDS) {
                return t.fail(TOO_MANY);
            }
            t.advance();
            long name = t.takeNewName(h);
            int kind = name == NONE ? NONE : t.takeWord(W_MOUSE, KINDS);
            int x = kind == NONE ? NONE : t.takeNumber(0, h.wide - 1);
            int y = x == NONE ? NONE : t.takeNumber(0, h.high - 1);
            int loud = y == NONE ? NONE : t.takeNumber(1, MOST_LOUD);
            int from = loud == NONE ? NONE : t.takeNumber(0, DAY - 1);
            int till = from == NONE ? NONE : t.takeNumber(0, DAY - 1);
            if (till == NONE) {
                return false;
            }
            h.soundName[s] = name;
            h.soundRow[s][SOUND_KIND] = kind;
            h.soundRow[s][SOUND_X] = x;
            h.soundRow[s][SOUND_Y] = y;
            h.soundRow[s][SOUND_LOUD] = loud;
            h.soundRow[s][SOUND_FROM] = from;
            h.soundRow[s][SOUND_TILL] = till;
            h.sounds = s + 1;
            return true;
        }

        private static boolean readWants(Tokens t, House h) {
            t.advance();
            int b = t.takeKnown(h.bedName, h.beds);
            if (b == NONE) {
                return false;
            }
            if (h.bedRow[b][BED_WANTS] != NONE) {
                return t.failBehind(BAD_NAME);
            }
            h.bedRow[b][BED_WANTS] = t.takeWord(W_MOUSE, KINDS);
            return h.bedRow[b][BED_WANTS] != NONE;
        }

        private static boolean readShut(Tokens t, House h) {
            if (h.shutTold) {
                return t.fail(BAD_NAME);
            }
            t.advance();
            int from = t.takeNumber(0, DAY - 1);
            int till = from == NONE ? NONE : t.takeNumber(0, DAY - 1);
            if (till == NONE) {
                return false;
            }
            h.shutFrom = from;
            h.shutTill = till;
            h.shutTold = true;
            return true;
        }
    }

    /** What changes in a house: the hour, who sits where, what is hushed, who knows. */
    private static final class State {
        private static final int MISSED_FROM = 5;

        private int hour = 0;
        private int hushed = 0;
        private int shouts = 0;
        /** A row as a sound's; LOUD 0: nobody shouted in this hour. */
        private final int[] shoutRow = new int[4];
        private final int[] owlBed = new int[MOST_OWLS];
        private final int[] knows = new int[MOST_BEDS];
        private final int[] misses = new int[MOST_BEDS];

        void begin(House h) {
            hour = 0;
            hushed = 0;
            shouts = 0;
            shoutRow[SOUND_LOUD] = 0;
            for (int o = 0; o < h.owls; o++) {
                owlBed[o] = h.owlRow[o][OWL_BED];
            }
            for (int b = 0; b < MOST_BEDS; b++) {
                knows[b] = 0;
                misses[b] = 0;
            }
        }

        void copyFrom(State other) {
            hour = other.hour;
            hushed = other.hushed;
            shouts = other.shouts;
            System.arraycopy(other.shoutRow, 0, shoutRow, 0, shoutRow.length);
            System.arraycopy(other.owlBed, 0, owlBed, 0, MOST_OWLS);
            System.arraycopy(other.knows, 0, knows, 0, MOST_BEDS);
            System.arraycopy(other.misses, 0, misses, 0, MOST_BEDS);
        }

        static int total(int[] row, int count) {
            int sum = 0;
            for (int i = 0; i < count && i < row.length; i++) {
                sum += row[i];
            }
            return sum;
        }

        int owlAt(House h, int b) {
            for (int o = 0; o < h.owls; o++) {
                if (owlBed[o] == b) {
                    return o;
                }
            }
            return NONE;
        }

        /** The shout has the number behind the last sound's. */
        int[] rowOf(House h, int s) {
            return h.hasSound(s) ? h.soundRow[s] : shoutRow;
        }

        /** What is on so many hours ahead, if nothing else is done: a shout is over then. */
        int onBits(House h, int ahead) {
            int bits = ahead == 0 && shoutRow[SOUND_LOUD] > 0 ? 1 << h.sounds : 0;
            for (int s = 0; s < h.sounds; s++) {
                int[] row = h.soundRow[s];
                if ((hushed >> s & 1) == 0 && House.within(row[SOUND_FROM], row[SOUND_TILL], hour + ahead)) {
                    bits |= 1 << s;
                }
            }
            return bits;
        }

        /** What of these an owl hears at a bed, if it is not shut. */
        int heardBits(House h, int o, int b, int on) {
            int bits = 0;
            for (int s = 0; s <= h.sounds; s++) {
                if ((on >> s & 1) == 1 && h.heardSide(o, b, rowOf(h, s)) != NONE) {
                    bits |= 1 << s;
                }
            }
            return bits;
        }

        int heardNow(House h, int o, int b) {
            return h.shutAt(hour) ? 0 : heardBits(h, o, b, onBits(h, 0));
        }

        int loudest(House h, int b, int bits) {
            int first = NONE;
            int most = 0;
            for (int s = 0; s <= h.sounds; s++) {
                if ((bits >> s & 1) == 1) {
                    int loudness = h.loudAt(b, rowOf(h, s));
                    if (first == NONE || loudness > most) {
                        first = s;
                        most = loudness;
                    }
                }
            }
            return first;
        }

        /** The sound at which an owl looks at a bed so many hours ahead, or NONE. */
        int lookOf(House h, int o, int b, int ahead) {
            if (h.shutAt(hour + ahead)) {
                return NONE;
            }
            return loudest(h, b, heardBits(h, o, b, onBits(h, ahead)));
        }

        int sideFrom(House h, int b, int s) {
            return s == NONE ? NONE : h.sideAt(b, rowOf(h, s));
        }

        int lookingBits(House h) {
            int bits = 0;
            for (int o = 0; o < h.owls; o++) {
                if (lookOf(h, o, owlBed[o], 0) != NONE) {
                    bits |= 1 << o;
                }
            }
            return bits;
        }

        int lendTo(House h, int o, int b) {
            if (owlBed[o] == b) {
                return 1;
            }
            if (owlAt(h, b) != NONE) {
                return 2;
            }
            owlBed[o] = b;
            return 0;
        }

        int hushOne(int s) {
            if ((hushed >> s & 1) == 1) {
                return 1;
            }
            hushed |= 1 << s;
            return 0;
        }

        int letOne(int s) {
            if ((hushed >> s & 1) == 0) {
                return 1;
            }
            hushed &= ~(1 << s);
            return 0;
        }

        boolean isShouted() {
            return shoutRow[SOUND_LOUD] > 0;
        }

        int shoutIn(int x, int y, int loud) {
            if (isShouted()) {
                return 1;
            }
            shoutRow[SOUND_KIND] = VOICE;
            shoutRow[SOUND_X] = x;
            shoutRow[SOUND_Y] = y;
            shoutRow[SOUND_LOUD] = loud;
            shouts++;
            return 0;
        }

        void passHour(House h) {
            int on = onBits(h, 0);
            boolean shut = h.shutAt(hour);
            for (int b = 0; b < h.beds; b++) {
                int o = owlAt(h, b);
                int look = o == NONE || shut ? NONE : loudest(h, b, heardBits(h, o, b, on));
                if (look != NONE) {
                    knows[b]++;
                }
                for (int s = 0; s <= h.sounds; s++) {
                    if ((on >> s & 1) == 1 && s != look && h.loudAt(b, rowOf(h, s)) >= MISSED_FROM) {
                        misses[b]++;
                    }
                }
            }
            hour++;
            shoutRow[SOUND_LOUD] = 0;
        }

        void passDrawn(House h, int count, int seed) {
            int x = seed;
            for (int i = 0; i < count; i++) {
                for (int s = 0; s < h.sounds; s++) {
                    x = step(x);
                    if (pick(x, 8) == 0) {
                        hushed ^= 1 << s;
                    }
                }
                x = step(x);
                if (pick(x, 6) == 0 && !isShouted()) {
                    int forX = step(x);
                    int forY = step(forX);
                    x = step(forY);
                    shoutIn(pick(forX, h.wide), pick(forY, h.high), pick(x, MOST_LOUD) + 1);
                }
                passHour(h);
            }
        }

        private static int step(int x) {
            return x * 1103515245 + 12345;
        }

        /** A draw of n by a stepped seed. */
        private static int pick(int x, int n) {
            return n > 0 ? (x >>> 8) % n : 0;
        }
    }

    /** The latest states that can come back. */
    private static final class Undo {
        private static final int MOST = 8;

        private final State[] states = new State[MOST];
        private int top = 0;
        private int count = 0;

        Undo() {
            for (int i = 0; i < MOST; i++) {
                states[i] = new State();
            }
        }

        void forget() {
            count = 0;
        }

        void keep(State s) {
            states[top].copyFrom(s);
            top = (top + 1) % MOST;
            count = Math.min(MOST, count + 1);
        }

        /** How many are left, or NONE, if there was none. */
        int takeBack(State s) {
            if (count == 0) {
                return NONE;
            }
            top = (top + MOST - 1) % MOST;
            count--;
            s.copyFrom(states[top]);
            return count;
        }
    }

    /** All that an image keeps. */
    private static final class Image {
        private boolean is = false;
        private final House home = new House();
        private final State state = new State();
        private final Sentence saying = new Sentence();

        void begin(House h) {
            home.copyFrom(h);
            state.begin(h);
            saying.is = false;
        }

        void copyFrom(Image other) {
            is = true;
            home.copyFrom(other.home);
            state.copyFrom(other.state);
            saying.copyFrom(other.saying);
        }
    }

    /** A book: its lines, and how far the latest one could be lived. */
    private static final class Book {
        private static final int MOST_BYTES = 400;
        private static final int MOST_LINES = 40;
        private static final int NO_CELL = 39;
        private static final int FEWER_HOURS = 41;

        private final int[][] rows = new int[MOST_LINES][4];
        private int lines = 0;
        private boolean judged = false;
        private int why = 0;
        private int ahead = 0;
        private int hourThen = 0;
        private int lookingThen = 0;

        boolean readAll(Tokens t, House h) {
            lines = 0;
            for (int i = 0; i <= MOST_LINES; i++) {
                if (t.kind == Tokens.THE_END) {
                    return true;
                }
                if (t.word < W_LEND || t.word > W_HOUR) {
                    return t.fail(CANNOT_COME);
                }
                if (i >= MOST_LINES) {
                    return t.fail(TOO_MANY);
                }
                if (!readLine(t, h, rows[i]) || !t.skipSign(';')) {
                    return false;
                }
                lines = i + 1;
            }
            return false;
        }

        private static boolean readLine(Tokens t, House h, int[] row) {
            row[0] = t.word;
            t.advance();
            switch (row[0]) {
                case W_LEND:
                    row[1] = t.takeKnown(h.owlName, h.owls);
                    row[2] = row[1] == NONE ? NONE : t.takeKnown(h.bedName, h.beds);
                    return row[2] != NONE;
                case W_SHOUT:
                    row[1] = t.takeNumber(0, MOST_WIDE - 1);
                    row[2] = row[1] == NONE ? NONE : t.takeNumber(0, MOST_WIDE - 1);
                    row[3] = row[2] == NONE ? NONE : t.takeNumber(1, MOST_LOUD);
                    return row[3] != NONE;
                case W_HOUR:
                    row[1] = t.takeNumber(1, MOST_AT_ONCE);
                    return row[1] != NONE;
                default:
                    row[1] = t.takeKnown(h.soundName, h.sounds);
                    return row[1] != NONE;
            }
        }

        void live(House h, State s) {
            why = 0;
            ahead = 0;
            for (int i = 0; i < lines && why == 0; i++) {
                why = liveLine(h, s, rows[i]);
                if (why == 0) {
                    ahead++;
                }
            }
            hourThen = s.hour;
            lookingThen = s.lookingBits(h);
            judged = true;
        }

        /** 0, or why the line is wrong. */
        private static int liveLine(House h, State s, int[] row) {
            switch (row[0]) {
                case W_LEND:
                    return s.lendTo(h, row[1], row[2]);
                case W_HUSH:
                    return s.hushOne(row[1]) == 0 ? 0 : 11;
                case W_LET:
                    return s.letOne(row[1]) == 0 ? 0 : 21;
                case W_SHOUT:
                    // Of a cell that there is not, shouting has no reason of its own to tell.
                    if (!h.hasCell(row[1], row[2])) {
                        return NO_CELL;
                    }
                    return s.shoutIn(row[1], row[2], row[3]) == 0 ? 0 : 31;
                default:
                    if (row[1] > LAST_HOUR - s.hour) {
                        return FEWER_HOURS;
                    }
                    for (int i = 0; i < row[1]; i++) {
                        s.passHour(h);
                    }
                    return 0;
            }
        }
    }

    /** What may be said of a bed: its ones behind one another, each joining word behind what it joins. */
    private static final class Sentence {
        private static final int MOST_BYTES = 200;
        private static final int MOST_ONES = 20;
        private static final int MOST_WITHIN = 8;
        private static final int MOST_STEPS = 2 * MOST_ONES;

        private boolean is = false;
        private int ones = 0;
        private int size = 0;
        private final int[] steps = new int[MOST_STEPS];
        private final int[] signs = new int[MOST_STEPS];
        private final int[] numbers = new int[MOST_STEPS];
        private final boolean[] stack = new boolean[MOST_ONES];

        void copyFrom(Sentence other) {
            is = other.is;
            size = other.size;
            System.arraycopy(other.steps, 0, steps, 0, MOST_STEPS);
            System.arraycopy(other.signs, 0, signs, 0, MOST_STEPS);
            System.arraycopy(other.numbers, 0, numbers, 0, MOST_STEPS);
        }

        boolean readAll(Tokens t, House h) {
            ones = 0;
            size = 0;
            is = readCond(t, h, 1) && (t.kind == Tokens.THE_END || t.fail(CANNOT_COME));
            return is;
        }

        private boolean readCond(Tokens t, House h, int within) {
            if (!readAlls(t, h, within)) {
                return false;
            }
            for (int i = 0; i < MOST_ONES && t.word == W_OR; i++) {
                t.advance();
                if (!readAlls(t, h, within)) {
                    return false;
                }
                addStep(W_OR, 0, 0);
            }
            return true;
        }

        private boolean readAlls(Tokens t, House h, int within) {
            if (!readOne(t, h, within)) {
                return false;
            }
            for (int i = 0; i < MOST_ONES && t.word == W_AND; i++) {
                t.advance();
                if (!readOne(t, h, within)) {
                    return false;
                }
                addStep(W_AND, 0, 0);
            }
            return true;
        }

        private boolean readOne(Tokens t, House h, int within) {
            boolean bracket = t.isSign('(');
            int word = t.word;
            if (!bracket && (word < W_NOT || word > W_NUMBER)) {
                return t.fail(CANNOT_COME);
            }
            if (ones >= MOST_ONES || within > MOST_WITHIN) {
                return t.fail(TOO_MANY);
            }
            ones++;
            t.advance();
            if (bracket) {
                return readCond(t, h, within + 1) && t.skipSign(')');
            }
            if (word == W_NOT) {
                if (!readOne(t, h, within + 1)) {
                    return false;
                }
                addStep(W_NOT, 0, 0);
                return true;
            }
            return readPlain(t, h, word);
        }

        private boolean readPlain(Tokens t, House h, int word) {
            int sign = 0;
            int number = 0;
            switch (word) {
                case W_BLIND:
                case W_TOLD:
                    break;
                case W_LOOKS:
                    number = t.takeWord(W_EAST, SIDES);
                    break;
                case W_BY:
                    number = t.takeKnown(h.owlName, h.owls);
                    break;
                case W_HEARS:
                    number = t.takeWord(W_MOUSE, KINDS);
                    break;
                default:
                    if (!t.isSign('<') && !t.isSign('=') && !t.isSign('>')) {
                        return t.fail(CANNOT_COME);
                    }
                    sign = t.value;
                    t.advance();
                    number = t.takeNumber(0, 999);
                    break;
            }
            addStep(word, sign, number);
            return number != NONE;
        }

        private void addStep(int word, int sign, int number) {
            if (size < MOST_STEPS) {
                steps[size] = word;
                signs[size] = sign;
                numbers[size] = number;
                size++;
            }
        }

        boolean holds(House h, State s, int b) {
            int o = s.owlAt(h, b);
            int look = o == NONE ? NONE : s.lookOf(h, o, b, 0);
            int top = 0;
            for (int i = 0; i < size; i++) {
                int word = steps[i];
                if (word == W_NOT && top >= 1) {
                    stack[top - 1] = !stack[top - 1];
                } else if (word == W_AND && top >= 2) {
                    top--;
                    stack[top - 1] = stack[top - 1] && stack[top];
                } else if (word == W_OR && top >= 2) {
                    top--;
                    stack[top - 1] = stack[top - 1] || stack[top];
                } else if (top < MOST_ONES) {
                    stack[top] = word >= W_KNOWS ? compares(s, b, i) : isSo(h, s, b, look, i);
                    top++;
                }
            }
            return top == 1 && stack[0];
        }

        private boolean isSo(House h, State s, int b, int look, int step) {
            int wanted = numbers[step];
            switch (steps[step]) {
                case W_BLIND:
                    return s.owlAt(h, b) == NONE;
                case W_TOLD:
                    return look != NONE;
                case W_LOOKS:
                    return s.sideFrom(h, b, look) == wanted;
                case W_BY:
                    return s.owlAt(h, b) == wanted;
                default:
                    return look != NONE && s.rowOf(h, look)[SOUND_KIND] == wanted;
            }
        }

        private boolean compares(State s, int b, int step) {
            int number = b;
            if (steps[step] == W_KNOWS) {
                number = s.knows[b];
            } else if (steps[step] == W_MISSED) {
                number = s.misses[b];
            }
            int wanted = numbers[step];
            if (signs[step] == '<') {
                return number < wanted;
            }
            return signs[step] == '=' ? number == wanted : number > wanted;
        }
    }

    /** Cells in which one voice can be, and the owl that tells most of them apart. */
    private static final class Spots {
        private static final int NOTHING = 255;
        private static final int CELLS = MOST_WIDE * MOST_WIDE;

        private final int[] cells = new int[CELLS];
        private final int[] cellsTried = new int[CELLS];
        private final int[] voice = new int[4];
        /** How many cells by each side, by 4, and by looking at nothing. */
        private final int[] tally = new int[HERE + 2];
        private int count = 0;
        private int nextOwl = NONE;

        /** How many cells; NONE: the tape is not as told. */
        int find(Tape tape, House h, State s) {
            if (!isAsTold(tape, h)) {
                return NONE;
            }
            voice[SOUND_KIND] = VOICE;
            voice[SOUND_LOUD] = tape.at(0);
            int found = 0;
            for (int y = 0; y < h.high; y++) {
                for (int x = 0; x < h.wide; x++) {
                    voice[SOUND_X] = x;
                    voice[SOUND_Y] = y;
                    if (found < CELLS && fits(tape, h, s)) {
                        cellsTried[found] = MOST_WIDE * y + x;
                        found++;
                    }
                }
            }
            if (found > 0) {
                System.arraycopy(cellsTried, 0, cells, 0, found);
                count = found;
                nextOwl = findNext(h, s);
            }
            return found;
        }

        private static boolean isAsTold(Tape tape, House h) {
            int n = tape.length;
            if (n < 3 || n > 13 || n % 2 == 0 || tape.at(0) < 1 || tape.at(0) > MOST_LOUD) {
                return false;
            }
            for (int i = 1; i < n; i += 2) {
                int side = tape.at(i + 1);
                if (!h.hasOwl(tape.at(i)) || side > HERE && side != NOTHING) {
                    return false;
                }
            }
            return true;
        }

        private boolean fits(Tape tape, House h, State s) {
            for (int i = 1; i < tape.length; i += 2) {
                int o = tape.at(i);
                int side = tape.at(i + 1) == NOTHING ? NONE : tape.at(i + 1);
                if (!h.hasOwl(o) || h.heardSide(o, s.owlBed[o], voice) != side) {
                    return false;
                }
            }
            return true;
        }

        private int findNext(House h, State s) {
            int first = NONE;
            int least = CELLS + 1;
            for (int o = 0; o < h.owls; o++) {
                int left = mostLeft(h, s, o);
                if (left < least) {
                    least = left;
                    first = o;
                }
            }
            return first;
        }

        private int mostLeft(House h, State s, int o) {
            for (int i = 0; i < tally.length; i++) {
                tally[i] = 0;
            }
            int most = 0;
            for (int i = 0; i < count; i++) {
                voice[SOUND_X] = cells[i] % MOST_WIDE;
                voice[SOUND_Y] = cells[i] / MOST_WIDE;
                int look = h.heardSide(o, s.owlBed[o], voice) + 1;
                tally[look]++;
                most = Math.max(most, tally[look]);
            }
            return most;
        }
    }

    /** The beds by which owls look most at what is wanted there. */
    private static final class Best {
        private final int[][] gain = new int[MOST_OWLS][MOST_BEDS];
        private final int[] chosen = new int[MOST_OWLS];
        private final int[] found = new int[MOST_OWLS];
        private int owls = 0;
        private int most = 0;

        int find(House h, State s) {
            for (int o = 0; o < h.owls; o++) {
                for (int b = 0; b < h.beds; b++) {
                    gain[o][b] = 0;
                }
            }
            for (int ahead = 0; ahead < DAY; ahead++) {
                if (!h.shutAt(s.hour + ahead)) {
                    countHour(h, s, ahead);
                }
            }
            owls = h.owls;
            most = NONE;
            choose(this, h, 0, 0, 0);
            return most;
        }

        private void countHour(House h, State s, int ahead) {
            int on = s.onBits(h, ahead) & (1 << h.sounds) - 1;
            for (int o = 0; o < h.owls; o++) {
                for (int b = 0; b < h.beds; b++) {
                    int look = s.loudest(h, b, s.heardBits(h, o, b, on));
                    if (look != NONE && h.soundRow[look][SOUND_KIND] == h.bedRow[b][BED_WANTS]) {
                        gain[o][b]++;
                    }
                }
            }
        }

        private static void choose(Best best, House h, int o, int used, int sum) {
            if (o >= h.owls || o >= MOST_OWLS) {
                // Choices come in their order: a like one behind the first does not count.
                if (sum > best.most) {
                    best.most = sum;
                    System.arraycopy(best.chosen, 0, best.found, 0, MOST_OWLS);
                }
                return;
            }
            for (int b = 0; b < h.beds; b++) {
                if ((used >> b & 1) == 0) {
                    best.chosen[o] = b;
                    choose(best, h, o + 1, used | 1 << b, sum + best.gain[o][b]);
                }
            }
        }
    }
}

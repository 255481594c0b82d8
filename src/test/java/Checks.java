import java.util.NoSuchElementException;

/** Counts answers that are not as due, and fills tapes. */
final class Checks {
    interface Call {
        long run();
    }

    static final int MAX = Integer.MAX_VALUE;
    static final int MIN = Integer.MIN_VALUE;
    /** Numbers that no bed, owl, sound, cell or place has. */
    static final int[] NO_SUCH = {-1, -2, MIN, MIN + 1, MAX, MAX - 1, 256, 1 << 16};
    static final String[] KINDS = {"mouse", "voice", "road", "bell"};
    static final String[] SIDES = {"east", "south", "west", "north"};
    /** Words that are no names. */
    static final String[] RESERVED = ("house bed owl bad deaf sound wants shut mouse voice road bell east south west north "
        + "lend hush let shout hour or and not blind told looks by hears knows missed number").split(" ");

    private final String title;
    private String words = "";
    private int checked = 0;
    private int wrong = 0;

    Checks(String title) {
        this.title = title;
    }

    /** The words of the document to which the next answers are held. */
    void says(String wordsOfTheDocument) {
        words = ": \"" + wordsOfTheDocument + "\"";
    }

    void due(String call, long got, long want) {
        checked++;
        if (got != want) {
            wrong++;
            System.out.println(title + words + ": " + call + " answered " + got + ", due is " + want);
        }
    }

    void due(String call, boolean got, boolean want) {
        due(call, got ? 1 : 0, want ? 1 : 0);
    }

    void dueNoSuch(String call, Call made) {
        checked++;
        try {
            long got = made.run();
            wrong++;
            System.out.println(title + words + ": " + call + " answered " + got + ", due is NoSuchElementException");
        } catch (NoSuchElementException e) {
            // as due
        }
    }

    /** The text alone is on the tape then. */
    static void put(OwlsLent x, String text) {
        int[] bytes = new int[text.length()];
        for (int i = 0; i < bytes.length; i++) {
            bytes[i] = text.charAt(i);
        }
        put(x, bytes);
    }

    static void put(OwlsLent x, int... bytes) {
        x.end(0);
        for (int at = 0; at < bytes.length; at += 20) {
            int[] five = new int[5];
            for (int i = 0; i < 20; i++) {
                int b = at + i < bytes.length ? bytes[at + i] & 255 : 0;
                five[i / 4] |= b << 24 - 8 * (i % 4);
            }
            x.feed(five[0], five[1], five[2], five[3], five[4]);
        }
        x.end(bytes.length);
    }

    static OwlsLent houseOf(String text) {
        OwlsLent x = new OwlsLent();
        put(x, text);
        if (x.house() < 0) {
            throw new IllegalStateException("a test's house has a fault: " + text);
        }
        return x;
    }

    static OwlsLent houseAt(String text, int hour) {
        OwlsLent x = houseOf(text);
        while (x.now(0) < hour && x.hours(Math.min(60, hour - x.now(0))) > 0) {
            continue;
        }
        if (x.now(0) != hour) {
            throw new IllegalStateException("a test's hour is not reached: " + hour);
        }
        return x;
    }

    /** Beds ba, bb, .. in a row from the cell 0 0 to the east. */
    static String beds(int count) {
        StringBuilder s = new StringBuilder();
        for (int i = 0; i < count; i++) {
            s.append("bed b").append((char) ('a' + i)).append(' ').append(i).append(" 0;");
        }
        return s.toString();
    }

    /** Owls oa, ob, .. by the beds ba, bb, .., that hear from 1 on. */
    static String owls(int count) {
        StringBuilder s = new StringBuilder();
        for (int i = 0; i < count; i++) {
            s.append("owl o").append((char) ('a' + i)).append(" b").append((char) ('a' + i)).append(" 1;");
        }
        return s.toString();
    }

    /** Sounds sa, sb, .. in the cell 0 0, 9 loud at all hours. */
    static String sounds(int count) {
        StringBuilder s = new StringBuilder();
        for (int i = 0; i < count; i++) {
            s.append("sound s").append((char) ('a' + i)).append(" mouse 0 0 9 0 23;");
        }
        return s.toString();
    }

    void dueHouse(String text, int lines, int fault) {
        OwlsLent x = new OwlsLent();
        put(x, text);
        due("house() of '" + text + "'", x.house(), lines);
        due("fault() of '" + text + "'", x.fault(), fault);
    }

    void dueBook(OwlsLent x, String text, int lives, int answer) {
        put(x, text);
        due("book(" + lives + ") of '" + text + "'", x.book(lives), answer);
    }

    void dueTold(OwlsLent x, int why, int ahead, int hour, int looking) {
        due("told(0)", x.told(0), why);
        due("told(1)", x.told(1), ahead);
        due("told(2)", x.told(2), hour);
        due("told(3)", x.told(3), looking);
    }

    void dueSentence(OwlsLent x, String text, int answer, int fault) {
        put(x, text);
        due("sentence() of '" + text + "'", x.sentence(), answer);
        due("fault() of '" + text + "'", x.fault(), fault);
    }

    /** The beds of which a sentence is said, in a row. */
    void dueSaid(OwlsLent x, String text, int... beds) {
        put(x, text);
        x.sentence();
        due("said(-1) of '" + text + "'", x.said(-1), beds.length);
        for (int k = 0; k < beds.length; k++) {
            due("said(" + k + ") of '" + text + "'", x.said(k), beds[k]);
        }
        due("said behind the last of '" + text + "'", x.said(beds.length), -1);
    }

    void end() {
        System.out.println(title + ": " + (checked - wrong) + " of " + checked + " answers are as due");
        if (wrong > 0 || checked == 0) {
            System.exit(1);
        }
    }
}

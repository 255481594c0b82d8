/** Promises 33 to 36: notes, and hours by draws. */
public final class NotesTest {
    private static final Checks c = new Checks("NotesTest");

    public static void main(String[] args) {
        notes();
        noteBytes();
        drawnShouts();
        drawnHushing();
        drawnByHand();
        drawnNotAsTold();
        odds();
        oddsNotAsTold();
        c.end();
    }

    private static void dueNote(OwlsLent x, int b, String note) {
        c.due("note(" + b + ") '" + note + "'", x.note(b), note.length());
        for (int i = 0; i < note.length(); i++) {
            c.due("byteAt(" + i + ") of '" + note + "'", x.byteAt(i), note.charAt(i));
        }
        c.due("byteAt behind '" + note + "'", x.byteAt(note.length()), -1);
    }

    private static void notes() {
        OwlsLent x = Checks.houseOf("house 7 7;bed mid 3 3;bed abcdefg 0 0;bed z 6 6;owl ear mid 4;owl zyxwvut abcdefg 1;"
            + "bad ear west;sound pip mouse 3 1 8 0 23;shut 6 17;");
        dueNote(x, 0, "mid ear looks north");
        dueNote(x, 1, "abcdefg zyxwvut looks east");
        dueNote(x, 2, "z alone");
        x.hush(0);
        dueNote(x, 0, "mid ear sleeps");
        x.shout(3, 3, 20);
        dueNote(x, 0, "mid ear looks here");
        x.lend(1, 2);
        dueNote(x, 1, "abcdefg alone");
        dueNote(x, 2, "z zyxwvut looks west");
        x.hours(1);
        x.shout(1, 3, 20);
        dueNote(x, 0, "mid ear sleeps");
        x.lend(1, 1);
        dueNote(x, 1, "abcdefg zyxwvut looks south");
        x.hours(5);
        dueNote(x, 0, "mid ear shut");
        dueNote(x, 2, "z alone");
    }

    private static void noteBytes() {
        OwlsLent x = Checks.houseOf("bed a 0 0;bed b 1 0;owl o a 1;");
        c.due("byteAt(0) ahead of any", x.byteAt(0), -1);
        x.note(1);
        c.due("no such bed", x.note(2), -1);
        c.due("no such bed -1", x.note(-1), -1);
        c.due("the latest note stays", x.byteAt(0), 'b');
        c.due("byteAt(-1)", x.byteAt(-1), -1);
        c.due("byteAt(MAX)", x.byteAt(Integer.MAX_VALUE), -1);
        x.note(0);
        c.due("a shorter one leaves nothing", x.byteAt(10), -1);
        Checks.put(x, "");
        x.house();
        c.due("it stays behind a new house", x.byteAt(0), 'a');
        c.due("no bed now", x.note(0), -1);
        c.due("it stays then, too", x.byteAt(2), 'o');
    }

    private static int step(int x) {
        return x * 1103515245 + 12345;
    }

    /** How many shout in so many hours of an empty house. */
    private static int shouts(int hours, int seed) {
        int x = seed;
        int shouts = 0;
        for (int i = 0; i < hours; i++) {
            x = step(x);
            if ((x >>> 8) % 6 == 0) {
                shouts++;
                x = step(step(step(x)));
            }
        }
        return shouts;
    }

    private static void drawnShouts() {
        for (int seed : new int[] {0, 1, -1, 77, Integer.MIN_VALUE, Integer.MAX_VALUE}) {
            OwlsLent x = new OwlsLent();
            c.due("drawn(60, " + seed + ")", x.drawn(60, seed), 60);
            c.due("shouts by " + seed, x.now(7), shouts(60, seed));
            c.due("the hour", x.now(0), 60);
            c.due("it is undone whole", x.undo(), 0);
            c.due("hour 0", x.now(0), 0);
        }
    }

    private static void drawnHushing() {
        for (int seed = 1; seed <= 40; seed++) {
            OwlsLent x = Checks.houseOf("sound s mouse 0 0 1 0 23;sound t mouse 0 0 1 0 23;");
            x.hush(1);
            x.drawn(1, seed);
            int first = step(seed);
            int second = step(first);
            int hushed = ((first >>> 8) % 8 == 0 ? 1 : 0) + ((second >>> 8) % 8 == 0 ? 0 : 2);
            c.due("hushed by " + seed, x.now(2), hushed);
        }
    }

    private static void drawnByHand() {
        // Of the cells and of how loud: one bed in the corner of a house of 9 by 2 misses a shout of 5 or more there.
        for (int seed = 1; seed <= 200; seed++) {
            OwlsLent x = Checks.houseOf("house 9 2;bed a 0 0;");
            OwlsLent shouted = Checks.houseOf("house 9 2;bed a 0 0;");
            shouted.shout(0, 1, 6);
            int draw = step(seed);
            boolean shouts = (draw >>> 8) % 6 == 0;
            int cellX = (step(draw) >>> 8) % 9;
            int cellY = (step(step(draw)) >>> 8) % 2;
            int loud = (step(step(step(draw))) >>> 8) % 30 + 1;
            x.drawn(1, seed);
            shouted.drawn(1, seed);
            c.due("misses by " + seed, x.bed(0, 5), shouts && loud - cellX - cellY >= 5 ? 1 : 0);
            c.due("misses behind a shout by " + seed, shouted.bed(0, 5), 1);
            c.due("shouts behind a shout by " + seed, shouted.now(7), 1);
        }
    }

    private static void drawnNotAsTold() {
        OwlsLent x = new OwlsLent();
        c.due("drawn(0)", x.drawn(0, 1), -1);
        c.due("drawn(61)", x.drawn(61, 1), -1);
        c.due("drawn(-1)", x.drawn(-1, 1), -1);
        c.due("nothing to undo", x.undo(), -1);
        for (int i = 0; i < 6; i++) {
            x.hours(60);
        }
        c.due("60 of 40", x.drawn(60, 3), 40);
        c.due("none is left", x.drawn(60, 3), 0);
        c.due("hour 400", x.now(0), 400);
        c.due("the latest that was done", x.undo(), 6);
        c.due("hour 360", x.now(0), 360);
    }

    private static void odds() {
        for (int seed = -3; seed < 20; seed++) {
            OwlsLent x = Checks.houseOf("bed a 0 0;bed b 5 5;sound s mouse 0 0 4 0 23;sound t bell 3 3 30 11 12;");
            x.hush(1);
            int good = 0;
            for (int i = 0; i < 30; i++) {
                x.drawn(12, seed + i);
                good += x.bed(0, 5) == 0 ? 1 : 0;
                x.undo();
            }
            c.due("odds(0, 30, " + seed + ")", x.odds(0, 30, seed), good);
            c.due("it stays as it is", x.now(0), 0);
            c.due("t is hushed still", x.now(2), 2);
        }
        OwlsLent y = Checks.houseOf("bed a 0 0;bed b 1 0;owl o a 1;sound s mouse 0 0 30 0 0;");
        y.hours(1);
        int lone = y.bed(1, 5);
        c.due("b missed one already", lone, 1);
        int quiet = 0;
        for (int i = 0; i < 30; i++) {
            y.drawn(12, i);
            quiet += y.bed(1, 5) == lone ? 1 : 0;
            y.undo();
        }
        c.due("it misses nothing more", y.odds(1, 30, 0), quiet);
        c.due("seeds wrap", y.odds(1, 2, Integer.MAX_VALUE), y.odds(1, 1, Integer.MAX_VALUE)
            + y.odds(1, 1, Integer.MIN_VALUE));
    }

    private static void oddsNotAsTold() {
        OwlsLent x = Checks.houseOf("bed a 0 0;sound s mouse 0 0 30 0 23;");
        c.due("no such bed", x.odds(1, 5, 1), -1);
        c.due("no such bed -1", x.odds(-1, 5, 1), -1);
        c.due("n 0", x.odds(0, 0, 1), -1);
        c.due("n 31", x.odds(0, 31, 1), -1);
        for (int i = 0; i < 6; i++) {
            x.hours(60);
        }
        x.hours(40);
        c.due("no hour is left to miss anything", x.odds(0, 30, 1), 30);
    }
}

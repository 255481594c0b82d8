/** Promises 10 to 15, 41 and 42: what is done, undone, kept and restored. */
public final class ActsTest {
    private static final String HOUSE = "house 3 3;bed a 0 0;bed b 2 2;bed c 2 0;owl o a 2;owl p b 2;"
        + "sound s mouse 0 0 6 0 23;sound t road 1 0 6 0 23;shut 6 17;";
    private static final Checks c = new Checks("ActsTest");

    public static void main(String[] args) {
        lending();
        hushing();
        shouting();
        hoursGo();
        theLastHour();
        undoing();
        whatIsNotUndone();
        images();
        newHouse();
        c.end();
    }

    private static void lending() {
        OwlsLent x = Checks.houseOf(HOUSE);
        c.due("it is there", x.lend(0, 0), 1);
        c.due("there is another one", x.lend(0, 1), 2);
        c.due("lent", x.lend(0, 2), 0);
        c.due("its bed", x.owl(0, 0), 2);
        c.due("the old bed has none", x.bed(0, 2), -1);
        c.due("the new one has it", x.bed(2, 2), 0);
        c.due("the other one may go to the old bed", x.lend(1, 0), 0);
        c.due("no such owl", x.lend(2, 0), -1);
        c.due("no such owl -1", x.lend(-1, 0), -1);
        c.due("no such bed", x.lend(0, 3), -1);
        c.due("no such bed -1", x.lend(0, -1), -1);
    }

    private static void hushing() {
        OwlsLent x = Checks.houseOf(HOUSE);
        c.due("not hushed", x.let(0), 1);
        c.due("hushed now", x.hush(0), 0);
        c.due("hushed already", x.hush(0), 1);
        c.due("it looks at the other one", x.owl(0, 5), 1);
        c.due("let", x.let(0), 0);
        c.due("let already", x.let(0), 1);
        c.due("it looks at it again", x.owl(0, 5), 0);
        x.shout(0, 0, 30);
        x.hush(0);
        x.hush(1);
        x.undo();
        x.undo();
        c.due("undone: not hushed", x.let(0), 1);
        c.due("no such sound to hush", x.hush(2), -1);
        c.due("no such sound to let", x.let(2), -1);
        c.due("hush(-1)", x.hush(-1), -1);
        c.due("let(-1)", x.let(-1), -1);
        c.due("hush(32)", x.hush(32), -1);
        x.hush(1);
        x.hours(20);
        c.due("hushed for good", x.now(2), 2);
    }

    private static void shouting() {
        OwlsLent x = Checks.houseOf(HOUSE);
        int[][] wrong = {{3, 0, 1}, {0, 3, 1}, {-1, 0, 1}, {0, -1, 1}, {0, 0, 0}, {0, 0, 31}, {0, 0, -1}};
        for (int[] w : wrong) {
            c.due("no such shout", x.shout(w[0], w[1], w[2]), -1);
        }
        c.due("none so far", x.now(7), 0);
        c.due("shouted", x.shout(2, 2, 30), 0);
        c.due("somebody shouted", x.shout(0, 0, 1), 1);
        c.due("no such ones, ahead of why not", x.shout(3, 3, 1), -1);
        c.due("p looks here", x.owl(1, 4), 4);
        c.due("at the shout", x.owl(1, 5), 2);
        c.due("o looks east", x.owl(0, 4), 0);
        x.hours(1);
        c.due("nobody shouted in the next hour", x.shout(0, 0, 1), 0);
        c.due("two", x.now(7), 2);
    }

    private static void hoursGo() {
        OwlsLent x = Checks.houseOf(HOUSE);
        c.due("hours(0)", x.hours(0), -1);
        c.due("hours(61)", x.hours(61), -1);
        c.due("hours(-1)", x.hours(-1), -1);
        // a: s is 6 loud (looked at), t 5 (missed). b: s is 2 loud (p hears from 2 on), t 3. c: s is 4, t 5 loud.
        c.due("hours(1)", x.hours(1), 1);
        dueBeds(x, "one hour", 1, 1, 1, 0, 0, 1);
        c.due("hours(5)", x.hours(5), 5);
        dueBeds(x, "six hours", 6, 6, 6, 0, 0, 6);
        // shut: a misses s and t, c misses t
        x.hours(1);
        dueBeds(x, "shut", 6, 8, 6, 0, 0, 7);
        // a shout of 9 at b: 5 loud at a, 9 at b, 7 at c
        x.shout(2, 2, 9);
        x.hours(1);
        dueBeds(x, "shouted", 6, 11, 6, 1, 0, 9);
        x.hours(10);
        dueBeds(x, "to hour 18", 6, 31, 6, 1, 0, 19);
        // p looks at the shout (4 loud at b), o at s: the shout is not loud enough to be missed by a or c
        x.shout(2, 2, 4);
        x.hours(1);
        dueBeds(x, "a low shout", 7, 32, 7, 1, 0, 20);
        c.due("all know", x.now(5), 14);
        c.due("all miss", x.now(6), 53);
    }

    private static void dueBeds(OwlsLent x, String when, int... due) {
        for (int b = 0; b < 3; b++) {
            c.due(when + ": bed " + b + " knows", x.bed(b, 4), due[2 * b]);
            c.due(when + ": bed " + b + " misses", x.bed(b, 5), due[2 * b + 1]);
        }
    }

    private static void theLastHour() {
        OwlsLent x = Checks.houseOf(HOUSE);
        for (int i = 0; i < 6; i++) {
            c.due("60 hours", x.hours(60), 60);
        }
        c.due("the rest", x.hours(60), 40);
        c.due("hour 400", x.now(0), 400);
        int missed = x.now(6);
        int undoable = 7;
        c.due("none is left", x.hours(1), 0);
        c.due("none is left to draw", x.drawn(5, 1), 0);
        c.due("nothing more is missed", x.now(6), missed);
        c.due("hour 400 still", x.now(0), 400);
        c.due("hours() of 0 is not undone", x.undo(), undoable - 1);
        c.due("before the rest", x.now(0), 360);
    }

    private static void undoing() {
        OwlsLent x = Checks.houseOf(HOUSE);
        c.due("nothing to undo", x.undo(), -1);
        x.lend(0, 2);
        x.hush(1);
        x.shout(1, 1, 30);
        x.hours(2);
        x.let(1);
        x.drawn(3, 7);
        Checks.put(x, "lend p a;hour 1;lend p a;");
        c.due("a book of which two lines are lived", x.book(1), 2);
        c.due("hour 6", x.now(0), 6);
        c.due("p is by a", x.bed(0, 2), 1);
        c.due("undo the book", x.undo(), 6);
        c.due("p is by b", x.bed(1, 2), 1);
        c.due("hour 5", x.now(0), 5);
        c.due("undo drawn()", x.undo(), 5);
        c.due("hour 2", x.now(0), 2);
        c.due("nothing hushed", x.now(2), 0);
        c.due("undo let()", x.undo(), 4);
        c.due("t hushed", x.now(2), 2);
        int missed = x.now(6);
        c.due("undo hours()", x.undo(), 3);
        c.due("hour 0", x.now(0), 0);
        c.due("nothing missed", x.now(6), 0);
        c.due("something was", missed > 0, true);
        c.due("it shouts again", x.now(1), 5);
        c.due("undo shout()", x.undo(), 2);
        c.due("nobody shouted", x.now(7), 0);
        c.due("no shout on", x.now(1), 1);
        c.due("undo hush()", x.undo(), 1);
        c.due("nothing is hushed", x.now(2), 0);
        c.due("undo lend()", x.undo(), 0);
        c.due("o is by a", x.owl(0, 0), 0);
        c.due("no more", x.undo(), -1);
    }

    private static void whatIsNotUndone() {
        OwlsLent x = Checks.houseOf(HOUSE);
        x.lend(0, 0);
        x.lend(0, 1);
        x.let(0);
        x.hours(0);
        x.drawn(0, 0);
        Checks.put(x, "hour 1;");
        x.book(0);
        Checks.put(x, "let s;hour 1;");
        c.due("a book whose first line is wrong", x.book(1), 0);
        Checks.put(x, "");
        c.due("an empty book", x.book(1), -1);
        c.due("nothing was done", x.undo(), -1);
        Checks.put(x, "told");
        x.hush(0);
        x.sentence();
        x.undo();
        c.due("the sentence stays", x.said(-1), 2);
        for (int i = 0; i < 10; i++) {
            c.due("an hour", x.hours(1), 1);
        }
        for (int i = 7; i >= 0; i--) {
            c.due("one of the latest eight", x.undo(), i);
        }
        c.due("no ninth", x.undo(), -1);
        c.due("two hours stay", x.now(0), 2);
        x.hush(0);
        x.hush(1);
        c.due("undo one", x.undo(), 1);
        x.hush(1);
        c.due("undo it again", x.undo(), 1);
        c.due("s is hushed", x.now(2), 1);
    }

    private static void images() {
        OwlsLent x = Checks.houseOf(HOUSE);
        c.due("nothing is kept in 0", x.restore(0), false);
        c.due("nothing is kept in 1", x.restore(1), false);
        c.due("image(2)", x.image(2), false);
        c.due("image(-1)", x.image(-1), false);
        Checks.put(x, "knows > 0");
        x.sentence();
        x.lend(0, 2);
        x.hush(0);
        x.hours(3);
        x.shout(2, 2, 30);
        c.due("image(1)", x.image(1), true);
        c.due("restore(0)", x.restore(0), false);
        c.due("restore(2)", x.restore(2), false);
        c.due("restore(-1)", x.restore(-1), false);
        c.due("an image undoes nothing", x.undo(), 3);
        int[] was = {x.bed(0, 4), x.bed(1, 4), x.bed(2, 4), x.bed(0, 5), x.bed(1, 5), x.bed(2, 5)};
        Checks.put(x, "house 9 8;bed z 8 7;");
        x.house();
        c.due("another house", x.image(0), true);
        x.feed(0, 0, 0, 0, 0);
        c.due("restore(1)", x.restore(1), true);
        c.due("the tape stays", x.count(5), 20);
        c.due("beds", x.count(0), 3);
        c.due("wide", x.count(3), 3);
        c.due("hour", x.now(0), 3);
        c.due("hushed", x.now(2), 1);
        c.due("the owl's bed", x.owl(0, 0), 2);
        for (int b = 0; b < 3; b++) {
            c.due("knows", x.bed(b, 4), was[b]);
            c.due("misses", x.bed(b, 5), was[3 + b]);
        }
        c.due("nothing can be undone", x.undo(), -1);
        c.due("the shout of the undone hour is not there", x.now(7), 1);
        // b and c know of t
        c.due("the sentence is there", x.said(-1), 2);
        x.note(0);
        c.due("the name is there", x.byteAt(0), 'a');
        x.hush(1);
        c.due("the latest before an image comes back", x.restore(1), true);
        c.due("can't be undone then", x.undo(), -1);
        c.due("t is not hushed", x.now(2), 1);
        c.due("restore(0) now", x.restore(0), true);
        c.due("one bed", x.count(0), 1);
        c.due("no sentence", x.said(-1), -1);
        x.hours(2);
        c.due("restore(0) again", x.restore(0), true);
        c.due("hour 0", x.now(0), 0);
        c.due("the other image stays", x.restore(1), true);
        c.due("hour 3", x.now(0), 3);
    }

    private static void newHouse() {
        OwlsLent x = Checks.houseOf(HOUSE);
        Checks.put(x, "told");
        x.sentence();
        x.lend(0, 2);
        x.lend(1, 0);
        x.hush(0);
        x.shout(0, 0, 1);
        x.hours(7);
        x.shout(0, 0, 1);
        Checks.put(x, HOUSE);
        x.house();
        for (int what : new int[] {0, 2, 4, 5, 6, 7}) {
            c.due("a new house: now(" + what + ")", x.now(what), 0);
        }
        c.due("a new house: no shout", x.now(1), 3);
        c.due("o sits as told", x.owl(0, 0), 0);
        c.due("p sits as told", x.owl(1, 0), 1);
        c.due("nothing can be undone", x.undo(), -1);
        c.due("no sentence", x.said(-1), -1);
    }
}

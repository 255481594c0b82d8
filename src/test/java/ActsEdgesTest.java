/** Each edge that the document names of what is done, undone and kept, by its words: promises 10 to 15, 35, 41 and 42. */
public final class ActsEdgesTest {
    private static final String HOUSE = "house 4 3;bed a 0 0;bed b 3 2;bed e 3 0;owl o a 1;owl p b 2;"
        + "sound s mouse 0 0 6 0 23;sound t road 1 0 6 0 23;shut 6 17;";
    private static final String FULL = Checks.beds(6) + Checks.owls(6) + Checks.sounds(8);
    private static final Checks c = new Checks("ActsEdgesTest");

    public static void main(String[] args) {
        lendNoSuch();
        lendWhyNot();
        hushNoSuch();
        hushAndLetWhyNot();
        shoutNoSuch();
        shoutWhyNot();
        hoursNotAsTold();
        hoursThatAreLeft();
        refusedActs();
        undoNone();
        undoEightAtMost();
        undoEach();
        undoOfRefusedActs();
        actsBehindWhatOnlyAsks();
        drawnNotAsTold();
        drawnThatAreLeft();
        drawnWraps();
        drawnShoutsOnce();
        drawnHushesAndLets();
        imageNoSuch();
        restoreNothingKept();
        imagesStay();
        restoreWhole();
        restoreLeaves();
        c.end();
    }

    private static void lendNoSuch() {
        c.says("An OWL is LENT to a BED: 0, or why not; NONE: no such ones");
        OwlsLent x = Checks.houseOf(HOUSE);
        c.due("lend(1, 2)", x.lend(1, 2), 0);
        c.due("lend(2, 2)", x.lend(2, 2), -1);
        c.due("lend(0, 3)", x.lend(0, 3), -1);
        c.due("lend(2, 3)", x.lend(2, 3), -1);
        for (int no : Checks.NO_SUCH) {
            c.due("lend(" + no + ", 0)", x.lend(no, 0), -1);
            c.due("lend(0, " + no + ")", x.lend(0, no), -1);
            c.due("lend(" + no + ", " + no + ")", x.lend(no, no), -1);
        }
        OwlsLent full = Checks.houseOf(FULL);
        c.due("lend(5, 5)", full.lend(5, 5), 1);
        c.due("lend(5, 0)", full.lend(5, 0), 2);
        c.due("lend(6, 0)", full.lend(6, 0), -1);
        c.due("lend(0, 6)", full.lend(0, 6), -1);
    }

    private static void lendWhyNot() {
        c.says("To LEND an OWL to a BED: why not, the least: 1 it is there; 2 there is another one");
        OwlsLent x = Checks.houseOf(HOUSE);
        c.due("it is there", x.lend(0, 0), 1);
        c.due("there is another one", x.lend(0, 1), 2);
        c.due("and another one here", x.lend(1, 0), 2);
        c.due("nobody is there", x.lend(0, 2), 0);
        c.due("it is there now", x.lend(0, 2), 1);
        c.due("not where it was told any more", x.lend(1, 0), 0);
        c.due("but it is not back there", x.lend(0, 0), 2);
        c.due("back by its neighbour's bed", x.lend(0, 1), 0);
        c.due("o by b", x.owl(0, 0), 1);
        c.due("p by a", x.owl(1, 0), 0);
        c.due("nobody by e", x.bed(2, 2), -1);
        OwlsLent shut = Checks.houseAt(HOUSE, 6);
        c.due("a shut owl is lent, too", shut.lend(0, 2), 0);
        OwlsLent over = Checks.houseAt(HOUSE, 400);
        c.due("at hour 400, too", over.lend(0, 2), 0);
    }

    private static void hushNoSuch() {
        c.says("A SOUND is HUSHED; It is LET: NONE: no such one");
        OwlsLent x = Checks.houseOf(HOUSE);
        x.shout(0, 0, 30);
        c.due("hush(2)", x.hush(2), -1);
        c.due("let(2)", x.let(2), -1);
        for (int no : Checks.NO_SUCH) {
            c.due("hush(" + no + ")", x.hush(no), -1);
            c.due("let(" + no + ")", x.let(no), -1);
        }
        c.due("hush(32)", x.hush(32), -1);
        c.due("let(32)", x.let(32), -1);
        c.due("nothing is hushed", x.now(2), 0);
        OwlsLent full = Checks.houseOf(FULL);
        c.due("hush(7)", full.hush(7), 0);
        c.due("hush(8)", full.hush(8), -1);
        c.due("let(8)", full.let(8), -1);
        c.due("the eighth is hushed", full.now(2), 128);
        c.due("hush(0) of none", new OwlsLent().hush(0), -1);
        c.due("let(0) of none", new OwlsLent().let(0), -1);
    }

    private static void hushAndLetWhyNot() {
        c.says("To HUSH a SOUND: 1 it is hushed. To LET it: 1 it is not");
        OwlsLent x = Checks.houseOf(HOUSE);
        c.due("it is not hushed", x.let(0), 1);
        c.due("hush(0)", x.hush(0), 0);
        c.due("it is hushed", x.hush(0), 1);
        c.due("the other one is not", x.let(1), 1);
        c.due("hush(1)", x.hush(1), 0);
        c.due("let(0)", x.let(0), 0);
        c.due("it is not any more", x.let(0), 1);
        c.due("the other one is still", x.hush(1), 1);
        c.due("hushed", x.now(2), 2);
        OwlsLent y = Checks.houseOf("sound s mouse 0 0 6 5 5;");
        c.due("not on, yet not hushed", y.let(0), 1);
        c.due("not on, hushed", y.hush(0), 0);
        OwlsLent over = Checks.houseAt(HOUSE, 400);
        c.due("at hour 400, too", over.hush(0), 0);
        c.due("and let", over.let(0), 0);
    }

    private static void shoutNoSuch() {
        c.says("Somebody SHOUTS in a cell, so LOUD (1 to 30): NONE: no such ones");
        for (int wide = 2; wide <= 9; wide++) {
            int high = 11 - wide;
            OwlsLent x = Checks.houseOf("house " + wide + " " + high + ";");
            c.due("shout(wide, 0, 1)", x.shout(wide, 0, 1), -1);
            c.due("shout(0, high, 1)", x.shout(0, high, 1), -1);
            c.due("shout(-1, 0, 1)", x.shout(-1, 0, 1), -1);
            c.due("shout(0, -1, 1)", x.shout(0, -1, 1), -1);
            c.due("shout(0, 0, 0)", x.shout(0, 0, 0), -1);
            c.due("shout(0, 0, 31)", x.shout(0, 0, 31), -1);
            for (int no : Checks.NO_SUCH) {
                c.due("shout(" + no + ", 0, 1)", x.shout(no, 0, 1), -1);
                c.due("shout(0, " + no + ", 1)", x.shout(0, no, 1), -1);
                c.due("shout(0, 0, " + no + ")", x.shout(0, 0, no), -1);
            }
            c.due("none was done", x.now(7), 0);
            c.due("the last cell", x.shout(wide - 1, high - 1, 30), 0);
            x.hours(1);
            c.due("the first cell", x.shout(0, 0, 1), 0);
        }
    }

    private static void shoutWhyNot() {
        c.says("To SHOUT: 1 somebody shouted in this HOUR");
        OwlsLent x = Checks.houseOf(HOUSE);
        c.due("the first", x.shout(0, 0, 1), 0);
        c.due("the second", x.shout(3, 2, 30), 1);
        c.due("no such ones", x.shout(4, 2, 30), -1);
        c.due("the first is on", x.owl(1, 5), 1);
        x.undo();
        c.due("undone", x.shout(3, 2, 30), 0);
        c.due("that is on", x.owl(1, 5), 2);
        x.hours(1);
        c.due("the next hour", x.shout(0, 0, 1), 0);
        Checks.put(x, "hour 1;shout 0 0 1;");
        x.book(1);
        c.due("a book's shout is one", x.shout(0, 0, 1), 1);
        OwlsLent over = Checks.houseAt(HOUSE, 400);
        c.due("at hour 400, too", over.shout(0, 0, 1), 0);
        c.due("once", over.shout(0, 0, 1), 1);
    }

    private static void hoursNotAsTold() {
        c.says("n (1 to 60) HOURS go by: how many did; NONE: not as told");
        OwlsLent x = Checks.houseOf(HOUSE);
        for (int no : new int[] {0, -1, 61, 62, 100, 400, Checks.MAX, Checks.MIN}) {
            c.due("hours(" + no + ")", x.hours(no), -1);
        }
        c.due("none went", x.now(0), 0);
        c.due("nothing to undo", x.undo(), -1);
        for (int n = 1; n <= 60; n++) {
            OwlsLent y = Checks.houseOf(HOUSE);
            c.due("hours(" + n + ")", y.hours(n), n);
            c.due("the hour", y.now(0), n);
            c.due("undone at once", y.undo(), 0);
            c.due("hour 0", y.now(0), 0);
        }
    }

    private static void hoursThatAreLeft() {
        c.says("how many did; 400: all are over");
        for (int hour : new int[] {339, 340, 341, 398, 399, 400}) {
            for (int n : new int[] {1, 2, 59, 60}) {
                OwlsLent x = Checks.houseAt(HOUSE, hour);
                int due = Math.min(n, 400 - hour);
                c.due("hours(" + n + ") at " + hour, x.hours(n), due);
                c.due("then", x.now(0), hour + due);
                c.due("not as told is looked at first", x.hours(61), -1);
            }
        }
    }

    private static void refusedActs() {
        c.says("0, or why not: what is refused changes nothing");
        OwlsLent x = Checks.houseOf(HOUSE);
        x.hush(1);
        x.shout(0, 0, 9);
        x.hours(2);
        x.shout(0, 0, 9);
        // in the first hour o looks at the shout and misses s, p looks at the shout, e misses it; then o looks at s
        int[] nows = {2, 5, 2, 3, 0, 3, 2, 2};
        int[][] calls = {{x.lend(0, 0), 1}, {x.lend(0, 1), 2}, {x.lend(5, 0), -1}, {x.hush(1), 1}, {x.hush(9), -1},
            {x.let(0), 1}, {x.let(-1), -1}, {x.shout(1, 1, 1), 1}, {x.shout(9, 9, 1), -1}, {x.hours(0), -1},
            {x.drawn(61, 1), -1}};
        for (int i = 0; i < calls.length; i++) {
            c.due("refused act " + i, calls[i][0], calls[i][1]);
        }
        for (int what = 0; what < 8; what++) {
            c.due("now(" + what + ")", x.now(what), nows[what]);
        }
        c.due("none of them is undone: the shout", x.undo(), 3);
        c.due("one shout", x.now(7), 1);
    }

    private static void undoNone() {
        c.says("NONE: none is");
        OwlsLent x = new OwlsLent();
        c.due("a new object", x.undo(), -1);
        c.due("once more", x.undo(), -1);
        x.hours(1);
        c.due("one", x.undo(), 0);
        c.due("none then", x.undo(), -1);
        x.hours(1);
        Checks.put(x, "");
        x.house();
        c.due("none behind a new house", x.undo(), -1);
        x.image(0);
        x.hours(1);
        x.restore(0);
        c.due("none behind restore()", x.undo(), -1);
        x.hours(1);
        x.restore(1);
        c.due("a restore() that is false leaves it", x.undo(), 0);
    }

    private static void undoEightAtMost() {
        c.says("how many more can be (8 at most are kept)");
        for (int acts = 1; acts <= 20; acts++) {
            OwlsLent x = new OwlsLent();
            for (int i = 0; i < acts; i++) {
                x.hours(1);
            }
            for (int left = Math.min(8, acts) - 1; left >= 0; left--) {
                c.due("undo() of " + acts, x.undo(), left);
            }
            c.due("no more of " + acts, x.undo(), -1);
            c.due("the hour of " + acts, x.now(0), Math.max(0, acts - 8));
        }
        OwlsLent x = new OwlsLent();
        for (int i = 0; i < 30; i++) {
            x.hours(2);
            x.hours(1);
            c.due("one is undone", x.undo(), Math.min(i + 1, 7));
        }
        for (int left = 6; left >= 0; left--) {
            c.due("the others", x.undo(), left);
        }
        c.due("no eighth: it went with the ninth act", x.undo(), -1);
        c.due("60 hours less 7 times 2", x.now(0), 46);
    }

    private static void undoEach() {
        c.says("The latest of lend(), hush(), let(), shout() that was done, hours() above 0, drawn() above 0, a BOOK");
        OwlsLent x = Checks.houseOf(HOUSE);
        x.lend(0, 2);
        x.hush(0);
        x.let(0);
        x.shout(1, 1, 9);
        x.hours(3);
        x.drawn(4, 77);
        Checks.put(x, "hour 5;");
        x.book(1);
        c.due("hour 12", x.now(0), 12);
        c.due("the book", x.undo(), 6);
        c.due("hour 7", x.now(0), 7);
        c.due("drawn()", x.undo(), 5);
        c.due("hour 3", x.now(0), 3);
        c.due("nothing is hushed", x.now(2), 0);
        c.due("one shout", x.now(7), 1);
        c.due("known", x.now(5), 6);
        c.due("hours()", x.undo(), 4);
        c.due("hour 0", x.now(0), 0);
        c.due("nothing known", x.now(5), 0);
        c.due("the shout is on again", x.now(1), 7);
        c.due("and none may shout", x.shout(0, 0, 1), 1);
        c.due("shout()", x.undo(), 3);
        c.due("no shout", x.now(7), 0);
        c.due("not on", x.now(1), 3);
        c.due("let()", x.undo(), 2);
        c.due("hushed again", x.now(2), 1);
        c.due("hush()", x.undo(), 1);
        c.due("not hushed", x.now(2), 0);
        c.due("o by e", x.owl(0, 0), 2);
        c.due("lend()", x.undo(), 0);
        c.due("o by a", x.owl(0, 0), 0);
        c.due("no more", x.undo(), -1);
    }

    private static void undoOfRefusedActs() {
        c.says("that was done; above 0; of which a LINE was lived");
        OwlsLent x = Checks.houseOf(HOUSE);
        x.lend(0, 0);
        x.lend(0, 1);
        x.lend(0, 9);
        x.let(0);
        x.hush(9);
        x.shout(9, 9, 9);
        x.hours(0);
        x.hours(61);
        x.drawn(0, 1);
        for (String book : new String[] {"", "let s;", "hour 1;@", "lend o a;hour 1;"}) {
            Checks.put(x, book);
            x.book(1);
        }
        Checks.put(x, "hour 1;");
        x.book(0);
        x.book(2);
        x.undo();
        c.due("nothing was done", x.undo(), -1);
        OwlsLent over = Checks.houseAt(HOUSE, 400);
        int most = 7;
        c.due("hours() of 0", over.hours(60), 0);
        c.due("drawn() of 0", over.drawn(60, 1), 0);
        c.due("hours() of 40 is the latest", over.undo(), most - 1);
        c.due("hour 360", over.now(0), 360);
    }

    private static void ask(OwlsLent x, int which) {
        switch (which) {
            case 0 -> x.odds(0, 30, 5);
            case 1 -> {
                Checks.put(x, "hush t;shout 2 2 9;hour 9;lend p e;");
                x.book(0);
            }
            case 2 -> {
                Checks.put(x, "lend o a;hour 9;");
                x.book(1);
            }
            case 3 -> {
                x.hours(9);
                x.undo();
            }
            case 4 -> x.lend(0, 0);
            case 5 -> {
                x.image(0);
                x.hours(9);
                x.restore(0);
            }
            case 6 -> {
                x.drawn(9, 3);
                x.undo();
            }
            case 7 -> x.worth(0, 60);
            case 8 -> x.when(0, 4);
            case 9 -> x.best();
            case 10 -> x.duel(0, 4, 4);
            case 11 -> {
                x.hours(9);
                Checks.put(x, HOUSE);
                x.house();
            }
            default -> x.would(0, 2);
        }
    }

    private static void actsBehindWhatOnlyAsks() {
        c.says("what only asks, what is refused and what is undone leaves nothing behind for the next act");
        for (int which = 0; which < 13; which++) {
            for (int act = 0; act < 7; act++) {
                OwlsLent x = Checks.houseOf(HOUSE);
                if (act == 4) {
                    x.hush(0);
                }
                ask(x, which);
                int[] due = {0, 3, 0, 3, 0, 0, 0, 0};
                switch (act) {
                    case 0 -> {
                        c.due("lend()", x.lend(0, 2), 0);
                    }
                    case 1 -> {
                        c.due("hush()", x.hush(1), 0);
                        due[1] = 1;
                        due[2] = 2;
                        due[3] = 1;
                    }
                    case 2 -> {
                        c.due("shout()", x.shout(0, 0, 1), 0);
                        due[1] = 7;
                        due[7] = 1;
                    }
                    case 3 -> {
                        c.due("hours()", x.hours(1), 1);
                        due[0] = 1;
                        due[5] = 2;
                        due[6] = 1;
                    }
                    case 4 -> {
                        c.due("let(), unless the house is a new one", x.let(0), which == 11 ? 1 : 0);
                    }
                    case 5 -> {
                        c.due("drawn()", x.drawn(1, 2), 1);
                        OwlsLent fresh = Checks.houseOf(HOUSE);
                        fresh.drawn(1, 2);
                        for (int what = 0; what < 8; what++) {
                            due[what] = fresh.now(what);
                        }
                    }
                    default -> {
                        Checks.put(x, "hour 2;");
                        c.due("book()", x.book(1), -1);
                        due[0] = 2;
                        due[5] = 4;
                        due[6] = 2;
                    }
                }
                for (int what = 0; what < 8; what++) {
                    c.due("now(" + what + ") behind act " + act + " behind " + which, x.now(what), due[what]);
                }
                c.due("o's bed behind act " + act + " behind " + which, x.owl(0, 0), act == 0 ? 2 : 0);
                c.due("p's bed behind act " + act + " behind " + which, x.owl(1, 0), 1);
            }
        }
    }

    private static void drawnNotAsTold() {
        c.says("n (1 to 60) HOURS DRAWN by a seed: how many went by; NONE: not as told");
        OwlsLent x = Checks.houseOf(HOUSE);
        for (int no : new int[] {0, -1, 61, 62, 400, Checks.MAX, Checks.MIN}) {
            c.due("drawn(" + no + ", 1)", x.drawn(no, 1), -1);
        }
        c.due("none went", x.now(0), 0);
        c.due("nothing to undo", x.undo(), -1);
        for (int n : new int[] {1, 2, 59, 60}) {
            for (int seed : new int[] {0, 1, -1, Checks.MAX, Checks.MIN}) {
                OwlsLent y = Checks.houseOf(HOUSE);
                c.due("drawn(" + n + ", " + seed + ")", y.drawn(n, seed), n);
                c.due("the hour", y.now(0), n);
                c.due("undone at once", y.undo(), 0);
                c.due("hour 0", y.now(0) + y.now(2) + y.now(5) + y.now(6) + y.now(7), 0);
            }
        }
    }

    private static void drawnThatAreLeft() {
        c.says("how many went by; 400: all are over");
        for (int hour : new int[] {340, 341, 399, 400}) {
            OwlsLent x = Checks.houseAt(HOUSE, hour);
            c.due("drawn(60, 5) at " + hour, x.drawn(60, 5), 400 - hour);
            c.due("then", x.now(0), 400);
            OwlsLent y = Checks.houseAt(HOUSE, hour);
            y.drawn(400 - hour, 5);
            for (int what = 0; what < 8; what++) {
                c.due("as many as are left: now(" + what + ")", x.now(what), y.now(what));
            }
        }
    }

    private static int step(int x) {
        return x * 1103515245 + 12345;
    }

    private static void drawnWraps() {
        c.says("x becomes x * 1103515245 + 12345 (an int, wrapping), the draw is (x >>> 8) % n");
        // 0 -> 12345, of 6: 12345 >>> 8 is 48, 48 % 6 is 0: one shouts in the first hour
        OwlsLent x = new OwlsLent();
        x.drawn(1, 0);
        c.due("seed 0", x.now(7), 1);
        // -1 -> -1103502900: 3191464396 >>> 8 is 12466657, % 6 is 1
        OwlsLent y = new OwlsLent();
        y.drawn(1, -1);
        c.due("seed -1", y.now(7), 0);
        for (int i = -300; i <= 300; i++) {
            for (int seed : new int[] {i, Checks.MAX - 300 + i, Checks.MIN + 300 + i, i * 7654321}) {
                OwlsLent z = new OwlsLent();
                z.drawn(1, seed);
                long wide = (seed * 1103515245L + 12345) & 0xffffffffL;
                c.due("seed " + seed, z.now(7), (wide >> 8) % 6 == 0 ? 1 : 0);
            }
        }
    }

    private static void drawnShoutsOnce() {
        c.says("a draw of 6: 0, and nobody shouted in this HOUR: one shouts: a draw of WIDE, of HIGH, of 30 (and 1)");
        int silent = 0;
        for (int seed = 0; seed < 300; seed++) {
            // whether a shout that cannot be takes draws of its own: seen by the next hour's draw
            OwlsLent x = new OwlsLent();
            x.shout(0, 0, 1);
            x.drawn(2, seed);
            int first = step(seed);
            int second = step(first);
            boolean again = (second >>> 8) % 6 == 0;
            silent += (first >>> 8) % 6 == 0 && again ? 1 : 0;
            c.due("behind a shout, by " + seed, x.now(7), again ? 2 : 1);
        }
        c.due("such seeds are among them", silent > 0, true);
        boolean[] louds = new boolean[31];
        for (int seed = 0; seed < 3000; seed++) {
            int draw = step(seed);
            if ((draw >>> 8) % 6 != 0) {
                continue;
            }
            int atX = (step(draw) >>> 8) % 7;
            int atY = (step(step(draw)) >>> 8) % 3;
            int loud = (step(step(step(draw))) >>> 8) % 30 + 1;
            louds[loud] = true;
            OwlsLent x = Checks.houseOf("house 7 3;bed a 0 0;bed b 6 2;");
            x.drawn(1, seed);
            c.due("missed by a, by " + seed, x.bed(0, 5), loud - atX - atY >= 5 ? 1 : 0);
            c.due("missed by b, by " + seed, x.bed(1, 5), loud - (6 - atX) - (2 - atY) >= 5 ? 1 : 0);
        }
        for (int loud = 1; loud <= 30; loud++) {
            c.due("so loud was one of them: " + loud, louds[loud], true);
        }
    }

    private static void drawnHushesAndLets() {
        c.says("SOUND by SOUND: a draw of 8: 0: it is hushed, or let, if it is hushed; then the HOUR");
        int flips = 0;
        for (int seed = 0; seed < 300; seed++) {
            OwlsLent x = Checks.houseOf("bed a 0 0;bed b 5 5;sound s mouse 0 0 5 0 23;sound t mouse 0 0 1 0 23;");
            x.hush(1);
            x.drawn(1, seed);
            boolean first = (step(seed) >>> 8) % 8 == 0;
            boolean second = (step(step(seed)) >>> 8) % 8 == 0;
            flips += (first ? 1 : 0) + (second ? 1 : 0);
            c.due("hushed by " + seed, x.now(2), (first ? 1 : 0) + (second ? 0 : 2));
            boolean shouts = (step(step(step(seed))) >>> 8) % 6 == 0;
            if (!shouts) {
                c.due("a hushed sound is not missed in that hour, by " + seed, x.bed(0, 5), first ? 0 : 1);
            }
        }
        c.due("some are hushed and some let", flips > 20, true);
    }

    private static void imageNoSuch() {
        c.says("are kept in place k (0, 1): true; false: no such one");
        OwlsLent x = new OwlsLent();
        c.due("image(0)", x.image(0), true);
        c.due("image(1)", x.image(1), true);
        c.due("image(2)", x.image(2), false);
        c.due("restore(2)", x.restore(2), false);
        for (int no : Checks.NO_SUCH) {
            c.due("image(" + no + ")", x.image(no), false);
            c.due("restore(" + no + ")", x.restore(no), false);
        }
    }

    private static void restoreNothingKept() {
        c.says("false: no such one, or nothing is kept there");
        OwlsLent x = Checks.houseOf(HOUSE);
        x.hours(2);
        c.due("restore(0)", x.restore(0), false);
        c.due("restore(1)", x.restore(1), false);
        c.due("all is as it was", x.now(0), 2);
        c.due("image(1)", x.image(1), true);
        c.due("restore(0) still", x.restore(0), false);
        c.due("acts can be undone still", x.undo(), 0);
        c.due("restore(1)", x.restore(1), true);
        c.due("hour 2", x.now(0), 2);
        c.due("image(0)", x.image(0), true);
        c.due("restore(0)", x.restore(0), true);
        OwlsLent y = new OwlsLent();
        y.image(0);
        Checks.put(y, HOUSE);
        y.house();
        c.due("a house that was told by nobody", y.restore(0), true);
        c.due("no beds", y.count(0), 0);
        c.due("6 wide", y.count(3), 6);
        c.due("6 high", y.count(4), 6);
    }

    private static void imagesStay() {
        c.says("They are as kept in place k");
        OwlsLent x = Checks.houseOf(HOUSE);
        x.hours(1);
        x.image(0);
        x.hours(1);
        x.image(1);
        for (int i = 0; i < 3; i++) {
            x.lend(0, 2);
            x.hush(1);
            x.shout(2, 2, 30);
            x.hours(5);
            c.due("restore(0)", x.restore(0), true);
            c.due("hour 1", x.now(0), 1);
            c.due("what is done behind it does not reach what is kept", x.now(2) + x.now(7) + x.owl(0, 0), 0);
            x.hours(9);
            c.due("restore(1)", x.restore(1), true);
            c.due("hour 2", x.now(0), 2);
            c.due("nor this", x.now(2) + x.now(7) + x.owl(0, 0), 0);
        }
        x.hours(2);
        x.image(0);
        x.restore(1);
        x.restore(0);
        c.due("the latest image of the place", x.now(0), 4);
        Checks.put(x, "house 9 9;bed z 8 8;");
        x.house();
        c.due("a new house leaves what is kept", x.restore(1), true);
        c.due("hour 2", x.now(0), 2);
        c.due("three beds", x.count(0), 3);
    }

    private static void restoreWhole() {
        c.says("HOUSE, all that is so and the SENTENCE are kept");
        OwlsLent x = Checks.houseOf("house 7 5;bed a 6 4;owl o a 20;bad o north;deaf o road;sound s bell 6 3 25 4 9;"
            + "wants a bell;shut 1 2;");
        x.hush(0);
        x.let(0);
        x.hours(3);
        x.hush(0);
        x.shout(6, 4, 20);
        Checks.put(x, "hears voice");
        x.sentence();
        x.image(1);
        Checks.put(x, "bed z 0 0;owl y z 1;sound w mouse 0 0 9 0 23;");
        x.house();
        x.restore(1);
        int[] beds = {6, 4, 0, 3, 0, 0};
        int[] owls = {0, 20, 3, 4, 4, 1};
        int[] sounds = {3, 6, 3, 25, 0, 1};
        for (int what = 0; what < 6; what++) {
            c.due("bed(0, " + what + ")", x.bed(0, what), beds[what]);
            c.due("owl(0, " + what + ")", x.owl(0, what), owls[what]);
            c.due("sound(0, " + what + ")", x.sound(0, what), sounds[what]);
        }
        int[] nows = {3, 2, 1, 1, 0, 0, 0, 1};
        for (int what = 0; what < 8; what++) {
            c.due("now(" + what + ")", x.now(what), nows[what]);
        }
        int[] counts = {1, 1, 1, 7, 5, 0};
        for (int what = 0; what < 6; what++) {
            c.due("count(" + what + ")", x.count(what), counts[what]);
        }
        c.due("somebody shouted", x.shout(0, 0, 1), 1);
        c.due("the sentence", x.said(-1), 1);
        c.due("the note", x.note(0), 14);
        Checks.put(x, "lend o a;");
        x.book(0);
        c.due("its names", x.told(0), 1);
        x.let(0);
        x.hours(1);
        c.due("its hours: s is on from 4", x.now(1), 1);
        x.hours(21);
        c.due("its shut: 25", x.now(4), 1);
    }

    private static void restoreLeaves() {
        c.says("(the tape, and what other calls told last, stays; nothing can be undone)");
        OwlsLent x = Checks.houseOf(HOUSE);
        x.image(0);
        x.hours(1);
        Checks.put(x, "@");
        x.book(0);
        Checks.put(x, "let s;");
        x.book(0);
        Checks.put(x, 8, 3, 1);
        x.keen();
        Checks.put(x, 9, 0, 4);
        x.spots();
        x.best();
        Checks.put(x, 4);
        x.code(0);
        x.duel(0, 0, 1);
        x.note(2);
        Checks.put(x, "@");
        x.sentence();
        x.feed(1, 2, 3, 4, 5);
        c.due("restore(0)", x.restore(0), true);
        c.due("the tape", x.count(5), 20);
        c.due("fault()", x.fault(), 1);
        c.due("told(0)", x.told(0), 21);
        c.due("told(2)", x.told(2), 1);
        c.due("keenLeast()", x.keenLeast(), 1);
        c.due("keenMost()", x.keenMost(), 5);
        c.due("spotAt(0)", x.spotAt(0), 0);
        c.due("next()", x.next(), 0);
        c.due("bestAt(1)", x.bestAt(1), 1);
        c.due("codeAt(0)", x.codeAt(0), 0);
        c.due("duelAt()", x.duelAt(), 0);
        c.due("byteAt(0)", x.byteAt(0), 'e');
        c.due("undo()", x.undo(), -1);
    }
}

/** Promises 20 to 31: spots, next, keen, best, code and duel. */
public final class RiddlesTest {
    private static final Checks c = new Checks("RiddlesTest");

    public static void main(String[] args) {
        spots();
        spotsNotAsTold();
        spotsAndOwls();
        next();
        keen();
        keenOfAnyLoud();
        keenNotAsTold();
        best();
        bestOfLikeOnes();
        bestByHours();
        code();
        codeNotAsTold();
        duel();
        duelInThree();
        duelNotAsTold();
        c.end();
    }

    private static int spotsOf(OwlsLent x, int... bytes) {
        Checks.put(x, bytes);
        int cells = x.spots();
        c.due("the tape is empty then", x.count(5), 0);
        return cells;
    }

    private static void spots() {
        OwlsLent x = Checks.houseOf("house 3 3;bed a 0 0;bed b 2 2;owl o a 3;sound s voice 0 0 30 0 23;shut 0 0;");
        c.due("spotAt(0) ahead of any", x.spotAt(0), -1);
        c.due("next() ahead of any", x.next(), -1);
        // it hears a voice of 4 at its cell and at the next ones, whatever else is on, and shut or not
        c.due("east", spotsOf(x, 4, 0, 0), 1);
        c.due("that cell", x.spotAt(0), 1);
        c.due("south", spotsOf(x, 4, 0, 1), 1);
        c.due("that cell", x.spotAt(0), 9);
        c.due("here", spotsOf(x, 4, 0, 4), 1);
        c.due("that cell", x.spotAt(0), 0);
        c.due("nothing", spotsOf(x, 4, 0, 255), 6);
        int[] cells = {2, 10, 11, 18, 19, 20, -1};
        for (int k = 0; k < cells.length; k++) {
            c.due("by Y, then by X: " + k, x.spotAt(k), cells[k]);
        }
        c.due("west", spotsOf(x, 4, 0, 2), 0);
        c.due("the latest above 0", x.spotAt(5), 20);
        c.due("its next", x.next(), 0);
        c.due("all", spotsOf(x, 30, 0, 0), 5);
        c.due("the least loud", spotsOf(x, 1, 0, 255), 9);
        c.due("two alike", spotsOf(x, 30, 0, 0, 0, 0), 5);
        c.due("two not alike", spotsOf(x, 30, 0, 0, 0, 1), 0);
        c.due("six", spotsOf(x, 30, 0, 0, 0, 0, 0, 0, 0, 0, 0, 0, 0, 0), 5);
        c.due("spotAt(-1)", x.spotAt(-1), -1);
        x.lend(0, 1);
        c.due("at its bed now", spotsOf(x, 4, 0, 3), 1);
        c.due("north of b", x.spotAt(0), 11);
        Checks.put(x, "house 2 2;");
        x.house();
        c.due("what was told stays", x.spotAt(0), 11);
        c.due("next stays", x.next(), 0);
    }

    private static void spotsNotAsTold() {
        OwlsLent x = Checks.houseOf("bed a 0 0;owl o a 3;");
        int[][] wrong = {{}, {4}, {4, 0}, {0, 0, 0}, {31, 0, 0}, {4, 1, 0}, {4, 255, 0}, {4, 0, 5}, {4, 0, 254},
            {4, 0, 0, 0}, {4, 0, 0, 0, 5}, {4, 0, 0, 1, 0}, {4, 0, 0, 0, 0, 0, 0, 0, 0, 0, 0, 0, 0, 0, 0}};
        for (int[] w : wrong) {
            c.due("not as told: " + java.util.Arrays.toString(w), spotsOf(x, w), -1);
        }
        c.due("none such", x.spotAt(0), -1);
        c.due("no next", x.next(), -1);
        c.due("no owls", spotsOf(new OwlsLent(), 4, 0, 0), -1);
    }

    private static void spotsAndOwls() {
        OwlsLent x = Checks.houseOf("house 3 3;bed a 1 1;bed b 0 0;owl o a 1;owl p b 1;bad o east;deaf p voice;");
        c.due("on the bad side it looks at nothing", spotsOf(x, 30, 0, 255), 3);
        c.due("the first of the east", x.spotAt(0), 2);
        c.due("none to the east", spotsOf(x, 30, 0, 0), 0);
        c.due("deaf to voices", spotsOf(x, 30, 1, 255), 9);
        c.due("deaf to voices: none", spotsOf(x, 30, 1, 4), 0);
        c.due("both", spotsOf(x, 30, 1, 255, 0, 2), 3);
    }

    private static void next() {
        OwlsLent x = Checks.houseOf("house 3 3;bed a 0 0;bed b 2 2;bed c 1 1;owl o a 3;owl p b 1;owl q c 1;"
            + "bad q east;");
        // left: (2,0) (1,1) (2,1) (0,2) (1,2) (2,2). o: nothing 6. p: north 2, west 3, here 1.
        // q: here 1, south 1, west 1 and nothing 3, on its bad side: as many as p leaves
        c.due("six", spotsOf(x, 4, 0, 255), 6);
        c.due("of like ones the first", x.next(), 1);
        x.lend(2, 0);
        x.hush(0);
        c.due("as it was then", x.next(), 1);
        OwlsLent y = Checks.houseOf("house 3 3;bed a 0 0;bed b 2 2;bed c 1 1;owl o a 3;owl p b 1;owl q c 1;");
        c.due("six again", spotsOf(y, 4, 0, 255), 6);
        // q: east 3 ((2,0) and (2,2) are as far off by X as by Y), here 1, south 1, west 1
        c.due("p and q leave 3", y.next(), 1);
        OwlsLent z = Checks.houseOf("house 3 3;bed a 0 0;bed c 1 1;owl o a 3;owl q c 1;");
        spotsOf(z, 4, 0, 255);
        c.due("q leaves the least", z.next(), 1);
        OwlsLent bad = Checks.houseOf("house 3 3;bed a 0 0;bed c 1 1;owl o a 3;owl q c 1;bad q east;");
        spotsOf(bad, 4, 0, 255);
        c.due("what o tells is not counted with q's", bad.next(), 1);
        // p tells a row of 9 from the north to the south; o hears nothing below 20
        OwlsLent long9 = Checks.houseOf("house 2 9;bed a 0 0;bed b 0 4;owl o a 20;owl p b 1;");
        c.due("all cells", spotsOf(long9, 19, 0, 255), 18);
        c.due("p leaves seven", long9.next(), 1);
        OwlsLent wide = Checks.houseOf("house 9 9;bed a 0 0;owl o a 1;deaf o voice;");
        c.due("all 81 cells", spotsOf(wide, 9, 0, 255), 81);
        c.due("the last cell", wide.spotAt(80), 80);
        c.due("the one owl, though it leaves all", wide.next(), 0);
    }

    private static int keenOf(OwlsLent x, int... bytes) {
        Checks.put(x, bytes);
        int numbers = x.keen();
        c.due("the tape is empty then", x.count(5), 0);
        return numbers;
    }

    private static void dueKeen(OwlsLent x, int numbers, int least, int most, int... bytes) {
        String told = java.util.Arrays.toString(bytes);
        c.due("keen() of " + told, keenOf(x, bytes), numbers);
        c.due("keenLeast() of " + told, x.keenLeast(), least);
        c.due("keenMost() of " + told, x.keenMost(), most);
    }

    private static void keen() {
        OwlsLent x = new OwlsLent();
        c.due("keenLeast() ahead of any", x.keenLeast(), -1);
        c.due("keenMost() ahead of any", x.keenMost(), -1);
        dueKeen(x, 5, 1, 5, 8, 3, 1);
        dueKeen(x, 15, 6, 20, 8, 3, 0);
        dueKeen(x, 3, 5, 7, 10, 3, 1, 6, 2, 0);
        dueKeen(x, 0, 5, 7, 10, 3, 1, 9, 2, 0);
        dueKeen(x, 20, 1, 20, 30, 0, 1);
        dueKeen(x, 0, 1, 20, 30, 0, 0);
        dueKeen(x, 0, 1, 20, 20, 0, 0);
        dueKeen(x, 1, 20, 20, 19, 0, 0);
        dueKeen(x, 1, 1, 1, 1, 0, 1);
        dueKeen(x, 0, 1, 1, 1, 1, 1);
        dueKeen(x, 20, 1, 20, 1, 1, 0);
        dueKeen(x, 20, 1, 20, 30, 255, 0);
        dueKeen(x, 2, 4, 5, 9, 1, 1, 9, 2, 1, 9, 3, 1, 9, 4, 1, 9, 6, 0, 9, 7, 0);
    }

    /** LOUD and how far are bytes: no bounds are told for them. */
    private static void keenOfAnyLoud() {
        OwlsLent x = new OwlsLent();
        dueKeen(x, 20, 1, 20, 0, 0, 0);
        dueKeen(x, 3, 1, 3, 31, 28, 1);
        dueKeen(x, 20, 1, 20, 0, 255, 0);
        dueKeen(x, 5, 1, 5, 255, 250, 1);
        dueKeen(x, 15, 6, 20, 255, 250, 0);
        dueKeen(x, 20, 1, 20, 255, 0, 1);
        dueKeen(x, 0, 1, 20, 0, 0, 1);
        dueKeen(x, 0, 1, 20, 0, 255, 1);
        dueKeen(x, 0, 1, 20, 255, 0, 0);
        dueKeen(x, 0, 1, 20, 31, 0, 0);
        dueKeen(x, 2, 4, 5, 0, 0, 0, 128, 123, 1, 200, 197, 0);
    }

    private static void keenNotAsTold() {
        OwlsLent x = new OwlsLent();
        keenOf(x, 8, 3, 1);
        int[][] wrong = {{}, {8}, {8, 3}, {8, 3, 2}, {8, 3, 255}, {0, 0, 2}, {31, 3, 2}, {8, 3, 1, 8},
            {8, 3, 1, 8, 4, 2}, {8, 3, 2, 8, 4, 1}, {8, 3, 1, 8, 4},
            {8, 3, 1, 8, 3, 1, 8, 3, 1, 8, 3, 1, 8, 3, 1, 8, 3, 1, 8, 3, 1}};
        for (int[] w : wrong) {
            dueKeen(x, -1, 1, 5, w);
        }
    }

    private static void best() {
        OwlsLent x = new OwlsLent();
        c.due("bestAt(0) ahead of any", x.bestAt(0), -1);
        c.due("no owls", x.best(), 0);
        c.due("bestAt(0) of none", x.bestAt(0), -1);
        x = Checks.houseOf("house 4 2;bed a 0 0;bed b 3 0;owl o a 1;owl p b 9;"
            + "sound s mouse 0 0 5 0 23;sound t road 3 0 9 0 23;wants a road;wants b mouse;shut 6 17;");
        c.due("bestAt(0) ahead of any here", x.bestAt(0), -1);
        // by a, o looks at t (6 to 5): 12 hours; by b, too, where a mouse is wanted
        c.due("o by a", x.best(), 12);
        c.due("bestAt(0)", x.bestAt(0), 0);
        c.due("bestAt(1)", x.bestAt(1), 1);
        x.hush(1);
        // by a, o looks at s, by b, too: there it is wanted
        c.due("o by b", x.best(), 12);
        c.due("bestAt(0)", x.bestAt(0), 1);
        c.due("bestAt(1)", x.bestAt(1), 0);
        c.due("bestAt(2)", x.bestAt(2), -1);
        c.due("bestAt(-1)", x.bestAt(-1), -1);
        c.due("they sit as they sat", x.owl(0, 0), 0);
        Checks.put(x, "bed a 0 0;bed b 1 0;bed c 2 0;owl o a 1;owl p b 1;owl q c 1;");
        x.house();
        c.due("what was told stays", x.bestAt(0), 1);
        c.due("there was no such owl", x.bestAt(2), -1);
    }

    private static void bestOfLikeOnes() {
        OwlsLent x = Checks.houseOf("bed a 0 0;bed b 1 0;bed c 2 0;bed d 3 0;owl p d 1;owl q b 1;");
        c.due("nothing is wanted", x.best(), 0);
        c.due("the least bed for the first", x.bestAt(0), 0);
        c.due("the next for the second", x.bestAt(1), 1);
        // both owls hear s alike everywhere; it is wanted at b and d
        OwlsLent y = Checks.houseOf("bed a 0 0;bed b 1 0;bed c 2 0;bed d 3 0;owl p a 1;owl q c 1;"
            + "sound s road 1 1 20 0 1;wants b road;wants d road;");
        c.due("two owls, two hours", y.best(), 4);
        c.due("the first by b", y.bestAt(0), 1);
        c.due("the second by d", y.bestAt(1), 3);
        // p hears s by b alone; q may go where it likes: the first is what the second leaves
        OwlsLent z = Checks.houseOf("bed a 0 0;bed b 1 0;bed c 2 0;owl p a 20;owl q c 1;"
            + "sound s road 1 0 20 0 1;wants a road;wants b road;wants c road;");
        c.due("p by b, q by a", z.best(), 4);
        c.due("p", z.bestAt(0), 1);
        c.due("q", z.bestAt(1), 0);
    }

    private static void bestByHours() {
        OwlsLent x = Checks.houseOf("bed a 0 0;owl o a 1;sound s voice 1 1 9 2 4;wants a voice;shut 4 4;");
        c.due("two hours of the day", x.best(), 2);
        x.shout(0, 0, 30);
        c.due("no shout", x.best(), 2);
        x.hours(3);
        c.due("those of the next day, too", x.best(), 2);
        for (int i = 0; i < 6; i++) {
            x.hours(60);
        }
        x.hours(37);
        c.due("hour 400", x.now(0), 400);
        c.due("hours above 399, too", x.best(), 2);
        x.hush(0);
        c.due("sounds as they are now", x.best(), 0);
        OwlsLent y = Checks.houseOf("bed a 0 0;owl o a 1;sound s mouse 1 1 9 0 2;wants a mouse;");
        y.shout(0, 0, 30);
        c.due("a shout drowns nothing", y.best(), 3);
        y.hush(0);
        c.due("a shout is no mouse", y.best(), 0);
    }

    private static int codeOf(OwlsLent x, int o, int... bytes) {
        Checks.put(x, bytes);
        int sides = x.code(o);
        c.due("the tape is empty then", x.count(5), 0);
        return sides;
    }

    private static void code() {
        OwlsLent x = Checks.houseOf("house 7 7;bed a 3 3;bed b 3 0;owl o a 2;owl p b 1;bad o west;deaf o road;"
            + "sound se mouse 5 3 3 0 23;sound sf mouse 5 3 4 0 23;sound sg mouse 6 3 9 9 9;sound sh mouse 3 3 2 0 23;"
            + "sound si mouse 1 3 9 0 23;sound sj road 3 5 30 0 23;sound sk bell 3 6 9 12 12;shut 0 23;");
        c.due("codeAt(0) ahead of any", x.codeAt(0), -1);
        // se is 1 loud; si is on the bad side; o does not hear sj
        c.due("east, here, south", codeOf(x, 0, 0, 4, 1), 3);
        int[] sounds = {1, 3, 6, -1};
        for (int k = 0; k < sounds.length; k++) {
            c.due("codeAt(" + k + ")", x.codeAt(k), sounds[k]);
        }
        c.due("codeAt(-1)", x.codeAt(-1), -1);
        c.due("no west", codeOf(x, 0, 2), -2);
        c.due("no west behind the south", codeOf(x, 0, 1, 2), -3);
        c.due("no north at the eighth", codeOf(x, 0, 0, 0, 0, 0, 0, 0, 0, 3), -9);
        c.due("the latest above 0", x.codeAt(0), 1);
        c.due("eight", codeOf(x, 0, 1, 1, 1, 1, 1, 1, 1, 0), 8);
        c.due("codeAt(6)", x.codeAt(6), 6);
        c.due("codeAt(7)", x.codeAt(7), 1);
        x.hush(1);
        c.due("hushed or not", codeOf(x, 0, 0), 1);
        c.due("codeAt(0)", x.codeAt(0), 1);
        c.due("codeAt(1) is gone", x.codeAt(1), -1);
        c.due("p at its bed", codeOf(x, 1, 1), 1);
        // at (3,0): sg is to the east, as far off by X as by Y; sh is 2 - 3 loud; si is farther off by Y, 9 - 5 loud
        c.due("its sound", x.codeAt(0), 4);
    }

    private static void codeNotAsTold() {
        OwlsLent x = Checks.houseOf("bed a 0 0;owl o a 1;sound s mouse 0 0 5 0 23;");
        c.due("none", codeOf(x, 0), -1);
        c.due("nine", codeOf(x, 0, 4, 4, 4, 4, 4, 4, 4, 4, 4), -1);
        c.due("a byte of 5", codeOf(x, 0, 5), -1);
        c.due("a byte of 255", codeOf(x, 0, 4, 255), -1);
        c.due("a byte of 5 behind one for which there is none", codeOf(x, 0, 3, 5), -1);
        c.due("no such owl", codeOf(x, 1, 4), -1);
        c.due("no such owl -1", codeOf(x, -1, 4), -1);
        c.due("none was told", x.codeAt(0), -1);
        x.feed(0x04ff0000, 0, 0, 0, 0);
        x.end(1);
        c.due("what was cut off does not count", x.code(0), 1);
        x.feed(0x040004ff, 0, 0, 0, 0);
        x.end(3);
        c.due("nor in spots()", x.spots(), 1);
        OwlsLent y = Checks.houseOf("bed a 0 0;owl o a 1;sound s mouse 0 0 5 0 23;");
        Checks.put(y, "bed a 0 0;owl o a 1;");
        y.house();
        c.due("no sound of the old house", codeOf(y, 0, 4), -2);
        x.shout(0, 0, 30);
        x.hush(0);
        c.due("here", codeOf(x, 0, 4), 1);
        c.due("the sound", x.codeAt(0), 0);
    }

    private static void dueDuel(OwlsLent x, int o, int side, int n, int won, int first) {
        c.due("duel(" + o + ", " + side + ", " + n + ")", x.duel(o, side, n), won);
        c.due("duelAt() of duel(" + o + ", " + side + ", " + n + ")", x.duelAt(), first);
    }

    private static void duel() {
        OwlsLent x = Checks.houseOf("house 3 3;bed a 1 1;owl o a 1;sound s mouse 2 1 10 0 23;"
            + "sound t road 1 0 9 0 23;sound u bell 0 1 8 0 23;");
        c.due("duelAt() ahead of any", x.duelAt(), -1);
        dueDuel(x, 0, 0, 1, 1, -1);
        dueDuel(x, 0, 3, 1, 1, 0);
        dueDuel(x, 0, 2, 1, 0, -1);
        dueDuel(x, 0, 1, 1, 0, -1);
        dueDuel(x, 0, 0, 2, 0, -1);
        dueDuel(x, 0, 3, 2, 0, -1);
        dueDuel(x, 0, 2, 3, 0, -1);
        c.due("they are not hushed", x.now(2), 0);
        x.hush(0);
        dueDuel(x, 0, 3, 1, 1, -1);
        dueDuel(x, 0, 2, 1, 1, 1);
        dueDuel(x, 0, 0, 1, 0, -1);
        x.shout(1, 1, 30);
        dueDuel(x, 0, 4, 4, 1, -1);
        dueDuel(x, 0, 2, 1, 0, -1);
        x.hours(6);
        dueDuel(x, 0, 3, 1, 0, -1);
        dueDuel(x, 0, 4, 1, 0, -1);
    }

    private static void duelInThree() {
        // two sounds to the north, a louder one to the east: the second side can hush but one of the north
        OwlsLent x = Checks.houseOf("house 4 4;bed a 1 2;owl o a 1;sound s mouse 2 2 10 0 23;"
            + "sound t road 1 1 9 0 23;sound v road 1 0 9 0 23;");
        dueDuel(x, 0, 3, 1, 1, 0);
        dueDuel(x, 0, 3, 2, 1, 0);
        dueDuel(x, 0, 3, 3, 1, -1);
        dueDuel(x, 0, 3, 4, 0, -1);
        dueDuel(x, 0, 0, 1, 1, -1);
        c.due("not as told", x.duel(0, 3, 5), -1);
        c.due("duelAt() stays", x.duelAt(), -1);
        dueDuel(x, 0, 3, 2, 1, 0);
        c.due("not as told", x.duel(0, 3, 0), -1);
        c.due("duelAt() stays then, too", x.duelAt(), 0);
        Checks.put(x, "");
        x.house();
        c.due("and behind a new house", x.duelAt(), 0);
    }

    private static void duelNotAsTold() {
        OwlsLent x = Checks.houseOf("bed a 0 0;owl o a 1;sound s mouse 1 0 9 0 23;");
        int[][] wrong = {{1, 0, 1}, {-1, 0, 1}, {0, 5, 1}, {0, -1, 1}, {0, 0, 0}, {0, 0, 5}, {0, 0, -1}};
        for (int[] w : wrong) {
            c.due("not as told: " + java.util.Arrays.toString(w), x.duel(w[0], w[1], w[2]), -1);
        }
    }
}

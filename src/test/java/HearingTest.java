/** Promises 16 to 19 and 32, and how an owl hears, as 2. of the document says. */
public final class HearingTest {
    private static final Checks c = new Checks("HearingTest");

    public static void main(String[] args) {
        sides();
        howLoud();
        whatIsHeard();
        theLoudest();
        elsewhere();
        when();
        whenAtTheEnd();
        worth();
        worthAtTheEnd();
        c.end();
    }

    private static OwlsLent one(int x, int y, int loud, String more) {
        return Checks.houseOf("house 7 7;bed mid 3 3;owl ear mid 4;sound pip mouse " + x + " " + y + " " + loud
            + " 0 23;" + more);
    }

    private static void sides() {
        int[][] due = {{5, 3, 0}, {3, 5, 1}, {1, 3, 2}, {3, 1, 3}, {5, 5, 0}, {5, 1, 0}, {1, 1, 2}, {1, 5, 2}, {4, 5, 1},
            {2, 0, 3}, {6, 1, 0}, {0, 6, 2}, {0, 5, 2}, {2, 6, 1}, {3, 3, 4}};
        for (int[] d : due) {
            OwlsLent x = one(d[0], d[1], 30, "");
            c.due("the side of " + d[0] + " " + d[1], x.owl(0, 4), d[2]);
            c.due("would(0, 0) of it", x.would(0, 0), d[2]);
        }
    }

    private static void howLoud() {
        OwlsLent x = Checks.houseOf("house 9 9;bed a 0 0;bed b 8 8;bed c 4 1;"
            + "sound s mouse 8 8 3 5 5;sound t road 4 2 30 0 23;");
        c.due("loud(0, 0)", x.loud(0, 0), -13);
        c.due("loud(0, 1)", x.loud(0, 1), 3);
        c.due("loud(0, 2)", x.loud(0, 2), -8);
        c.due("loud(1, 0)", x.loud(1, 0), 24);
        c.due("loud(1, 1)", x.loud(1, 1), 20);
        c.due("loud(1, 2)", x.loud(1, 2), 29);
        x.hush(1);
        c.due("hushed, too", x.loud(1, 2), 29);
        x.shout(0, 0, 30);
        c.dueNoSuch("loud of the shout", () -> x.loud(2, 0));
        c.dueNoSuch("loud(-1, 0)", () -> x.loud(-1, 0));
        c.dueNoSuch("loud(0, 3)", () -> x.loud(0, 3));
        c.dueNoSuch("loud(0, -1)", () -> x.loud(0, -1));
    }

    private static void whatIsHeard() {
        c.due("as loud as told from on", one(5, 3, 6, "").hears(0), 1);
        c.due("less loud", one(5, 3, 5, "").hears(0), 0);
        c.due("deaf to it", one(5, 3, 30, "deaf ear mouse;").hears(0), 0);
        c.due("deaf to others", one(5, 3, 30, "deaf ear voice;deaf ear road;deaf ear bell;").hears(0), 1);
        c.due("on the bad side", one(5, 3, 30, "bad ear east;").hears(0), 0);
        c.due("on another side", one(5, 3, 30, "bad ear west;").hears(0), 1);
        c.due("here is on no bad side", one(3, 3, 30, "bad ear east;").hears(0), 1);
        c.due("shut", one(5, 3, 30, "shut 0 0;").hears(0), 0);
        OwlsLent x = one(5, 3, 30, "sound hum voice 3 2 5 0 0;sound din bell 3 3 30 1 1;");
        c.due("two", x.hears(0), 3);
        x.shout(3, 3, 4);
        c.due("the shout, too", x.hears(0), 11);
        x.hush(0);
        c.due("not the hushed one", x.hears(0), 10);
        x.hours(1);
        c.due("an hour later", x.hears(0), 4);
        c.due("no such owl", x.hears(1), -1);
        c.due("hears(-1)", x.hears(-1), -1);
    }

    private static void theLoudest() {
        OwlsLent x = one(5, 3, 9, "sound q mouse 3 1 9 0 23;sound r mouse 1 3 10 0 23;");
        c.due("the loudest at its bed", x.owl(0, 5), 2);
        x.hush(2);
        c.due("of like ones the first", x.owl(0, 5), 0);
        c.due("east", x.owl(0, 4), 0);
        x.shout(3, 3, 7);
        c.due("a like shout comes behind", x.owl(0, 5), 0);
        x.hours(1);
        x.shout(3, 3, 8);
        c.due("a louder shout", x.owl(0, 5), 3);
        OwlsLent y = one(5, 3, 9, "sound q road 3 3 30 0 23;deaf ear road;");
        c.due("what it does not hear is not the loudest", y.owl(0, 5), 0);
    }

    private static void elsewhere() {
        OwlsLent x = Checks.houseOf("house 7 7;bed mid 3 3;bed nor 3 0;bed far 6 6;owl ear mid 4;owl nod nor 1;"
            + "bad ear west;sound pip mouse 3 2 8 0 23;shut 5 5;");
        c.due("north at its own", x.would(0, 0), 3);
        c.due("south at another's", x.would(0, 1), 1);
        c.due("not loud enough", x.would(0, 2), -1);
        c.due("nod hears it on", x.would(1, 2), 3);
        x.shout(6, 6, 4);
        c.due("here at the third", x.would(0, 2), 4);
        c.due("it stays by its own", x.owl(0, 0), 0);
        c.due("no such owl", x.would(2, 0), -1);
        c.due("no such owl -1", x.would(-1, 0), -1);
        c.due("no such bed", x.would(0, 3), -1);
        c.due("no such bed -1", x.would(0, -1), -1);
        x.hours(5);
        c.due("shut", x.would(0, 0), -1);
        OwlsLent y = Checks.houseOf("house 7 7;bed mid 3 3;bed eas 6 3;owl ear mid 1;bad ear west;"
            + "sound pip mouse 4 3 20 0 23;");
        c.due("east at the first", y.would(0, 0), 0);
        c.due("its bad side at the second", y.would(0, 1), -1);
    }

    private static void when() {
        OwlsLent x = one(5, 3, 9, "sound q mouse 3 1 20 20 20;sound r bell 3 3 30 7 7;");
        c.due("now", x.when(0, 0), 0);
        c.due("at 20", x.when(0, 3), 20);
        c.due("shut then", x.when(0, 4), -1);
        c.due("never", x.when(0, 2), -1);
        x.shout(3, 3, 30);
        c.due("here now", x.when(0, 4), 0);
        c.due("east behind the shout", x.when(0, 0), 1);
        x.undo();
        x.shout(1, 3, 30);
        c.due("the shout is now", x.when(0, 2), 0);
        c.due("and over in the next hour", x.when(0, 0), 1);
        x.hours(20);
        c.due("at 20 now", x.when(0, 3), 0);
        c.due("east at 21", x.when(0, 0), 1);
        x.hours(1);
        c.due("the next day", x.when(0, 3), 23);
        x.hush(1);
        c.due("hushed for good", x.when(0, 3), -1);
        c.due("no such owl", x.when(1, 0), -1);
        c.due("no such owl -1", x.when(-1, 0), -1);
        c.due("no such side", x.when(0, 5), -1);
        c.due("no such side -1", x.when(0, -1), -1);
    }

    private static void whenAtTheEnd() {
        // pip is on at the hour of the day 16 alone: 376 and 400 are such hours
        OwlsLent x = Checks.houseOf("bed a 0 0;owl o a 1;sound s mouse 1 0 9 16 16;shut 0 0;");
        for (int i = 0; i < 6; i++) {
            x.hours(60);
        }
        c.due("at 376", x.when(0, 0), 16);
        x.hours(17);
        c.due("just as many are left", x.when(0, 0), 23);
        x.hours(23);
        c.due("hour 400", x.now(0), 400);
        c.due("it does now", x.when(0, 0), 0);
        OwlsLent y = Checks.houseOf("bed a 0 0;owl o a 1;sound s mouse 1 0 9 17 17;shut 0 0;");
        for (int i = 0; i < 6; i++) {
            y.hours(60);
        }
        y.hours(18);
        c.due("fewer are left", y.when(0, 0), -1);
    }

    private static void worth() {
        OwlsLent x = Checks.houseOf("house 7 7;bed mid 3 3;bed nor 3 0;owl ear mid 1;"
            + "sound pip mouse 5 3 7 0 9;sound q mouse 1 3 6 10 12;sound din bell 3 3 30 20 20;shut 3 4;");
        // pip is 5 loud, q 4; din 30
        c.due("worth(0, 1)", x.worth(0, 1), 1);
        c.due("worth(0, 3)", x.worth(0, 3), 3);
        c.due("shut at 3 and 4", x.worth(0, 5), 3);
        c.due("to 9", x.worth(0, 10), 8);
        c.due("q is not loud enough to be missed", x.worth(0, 20), 8);
        c.due("din", x.worth(0, 21), 9);
        c.due("three days", x.worth(0, 60), 26);
        x.hours(10);
        c.due("at 10", x.worth(0, 1), 0);
        x.shout(3, 3, 5);
        c.due("with a shout", x.worth(0, 1), 1);
        c.due("the shout is over then", x.worth(0, 2), 1);
        c.due("it stays as it is", x.now(0), 10);
        c.due("no owl", x.worth(1, 5), -1);
        c.due("no such bed", x.worth(2, 5), -1);
        c.due("no such bed -1", x.worth(-1, 5), -1);
        c.due("n 0", x.worth(0, 0), -1);
        c.due("n 61", x.worth(0, 61), -1);
        x.lend(0, 1);
        c.due("its owl is away", x.worth(0, 5), -1);
        c.due("no worth there", x.worth(1, 5), 0);
    }

    private static void worthAtTheEnd() {
        OwlsLent x = Checks.houseOf("bed a 0 0;owl o a 1;sound s mouse 1 0 9 0 23;shut 0 0;");
        for (int i = 0; i < 6; i++) {
            x.hours(60);
        }
        x.hours(37);
        c.due("to hour 400", x.worth(0, 60), 3);
        x.hours(3);
        c.due("at hour 400", x.worth(0, 60), 0);
    }
}

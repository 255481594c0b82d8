/** Promises 1 to 9 and 43: the tape, the text of a house, and what is so. */
public final class HouseTest {
    private static final String BED = "bed a 0 0;";
    private static final String OWL = "owl o a 1;";
    private static final String SOUND = "sound s mouse 0 0 1 0 0;";
    private static final Checks c = new Checks("HouseTest");

    public static void main(String[] args) {
        newObject();
        feeding();
        ending();
        tokens();
        houseLine();
        bedLine();
        owlLine();
        badAndDeafLines();
        soundLine();
        wantsAndShutLines();
        lengths();
        faultStays();
        beds();
        owls();
        sounds();
        nows();
        counts();
        nothingIsLeft();
        c.end();
    }

    private static void newObject() {
        OwlsLent x = new OwlsLent();
        int[] counts = {0, 0, 0, 6, 6, 0};
        for (int what = 0; what < 6; what++) {
            c.due("new: count(" + what + ")", x.count(what), counts[what]);
        }
        for (int what = 0; what < 8; what++) {
            c.due("new: now(" + what + ")", x.now(what), 0);
        }
        c.due("new: fault()", x.fault(), 0);
        x.hours(5);
        c.due("new: not shut at 5", x.now(4), 0);
        x.hours(1);
        c.due("new: shut at 6", x.now(4), 1);
        x.hours(11);
        c.due("new: shut at 17", x.now(4), 1);
        x.hours(1);
        c.due("new: not shut at 18", x.now(4), 0);
        c.due("NONE", OwlsLent.NONE, -1);
    }

    private static void feeding() {
        OwlsLent x = new OwlsLent();
        for (int i = 1; i <= 47; i++) {
            c.due("feed " + i, x.feed(0, 0, 0, 0, 0), 20 * i);
        }
        c.due("feed 48", x.feed(0, 0, 0, 0, 0), -1);
        c.due("none came", x.count(5), 940);
        x.end(921);
        c.due("feed behind 921", x.feed(0, 0, 0, 0, 0), -1);
        c.due("none came behind 921", x.count(5), 921);
        x.end(920);
        c.due("feed behind 920", x.feed(0, 0, 0, 0, 0), 940);
        x.end(0);
        x.feed(0x62656420, 0x61203320, 0x343b0000, -1, Integer.MIN_VALUE);
        x.end(10);
        c.due("bytes come highest first", x.house(), 1);
        c.due("x of that", x.bed(0, 0), 3);
        c.due("y of that", x.bed(0, 1), 4);
        x.feed(-1, 0, 0, 0, 0);
        c.due("a byte of 255 is no token", x.house(), -1);
    }

    private static void ending() {
        OwlsLent x = new OwlsLent();
        c.due("end(0) of nothing", x.end(0), true);
        c.due("end(1) of nothing", x.end(1), false);
        x.feed(0, 0, 0, 0, 0);
        c.due("end(21)", x.end(21), false);
        c.due("end(-1)", x.end(-1), false);
        c.due("end(MIN)", x.end(Integer.MIN_VALUE), false);
        c.due("end(MAX)", x.end(Integer.MAX_VALUE), false);
        c.due("all there still", x.count(5), 20);
        c.due("end(20)", x.end(20), true);
        c.due("end(7)", x.end(7), true);
        c.due("seven left", x.count(5), 7);
        c.due("end(8)", x.end(8), false);
    }

    private static void tokens() {
        c.dueHouse("", 0, 0);
        c.dueHouse(" \n ", 0, 0);
        c.dueHouse("\n bed  a\n0 0 ; ", 1, 0);
        c.dueHouse("bed abcdefg 0 0;", 1, 0);
        c.dueHouse("bed abcdefgh 0 0;", -5, 1);
        c.dueHouse("bed a1 0 0;", -5, 1);
        c.dueHouse("bed a 000 05;", 1, 0);
        c.dueHouse("bed a 0000 0;", -7, 1);
        c.dueHouse("bed a 0 0x;", -9, 1);
        c.dueHouse("bed\ta 0 0;", -4, 1);
        c.dueHouse("Bed a 0 0;", -1, 1);
        c.dueHouse("bed aB 0 0;", -6, 1);
        c.dueHouse("bed a 0 -1;", -9, 1);
        c.dueHouse(BED + ".", -11, 1);
        c.dueHouse(BED + ";", -11, 1);
        c.dueHouse("bed 1 0 0;", -5, 1);
        c.dueHouse("bed a b 0;", -7, 1);
        c.dueHouse("bed a 0 0", -10, 1);
        c.dueHouse("bed a 0 0 0;", -11, 1);
        c.dueHouse("bed", -4, 1);
        c.dueHouse("bed a  ", -8, 1);
        c.dueHouse("abc", -1, 1);
        c.dueHouse("12", -1, 1);
        c.dueHouse("hour 1;", -1, 1);
        for (String word : Checks.RESERVED) {
            c.dueHouse("bed " + word + " 0 0;", -5, 1);
            c.dueHouse("wants " + word + " bell;", -7, 1);
        }
        for (String word : new String[] {"alone", "sleeps", "here", "wide", "east1".substring(0, 3)}) {
            c.dueHouse("bed " + word + " 0 0;", 1, 0);
        }
    }

    private static void houseLine() {
        c.dueHouse("house 2 9;", 1, 0);
        c.dueHouse("house 9 2;", 1, 0);
        c.dueHouse("house 1 2;", -7, 2);
        c.dueHouse("house 10 2;", -7, 2);
        c.dueHouse("house 2 1;", -9, 2);
        c.dueHouse("house 2 10;", -9, 2);
        c.dueHouse("house 4;", -8, 1);
        c.dueHouse("house 4 4", -10, 1);
        c.dueHouse("house 4 4;house 4 4;", -11, 3);
        c.dueHouse(BED + "house 4 4;", -11, 3);
        c.dueHouse(SOUND + "house 4 4;", -25, 3);
        c.dueHouse("shut 1 2;house 4 4;", 2, 0);
        c.dueHouse("house 4 3;bed a 3 2;", 2, 0);
        c.dueHouse("house 4 3;bed a 4 2;", -17, 2);
        c.dueHouse("house 4 3;bed a 3 3;", -19, 2);
    }

    private static void bedLine() {
        c.dueHouse("bed a 5 5;", 1, 0);
        c.dueHouse("bed a 6 5;", -7, 2);
        c.dueHouse("bed a 5 6;", -9, 2);
        c.dueHouse(BED + "bed a 1 0;", -15, 3);
        c.dueHouse(BED + "bed b 0 0;", -19, 3);
        c.dueHouse(BED + "bed b 0 0", -19, 3);
        c.dueHouse(BED + "bed b 0 1;bed c 1 0;", 3, 0);
        c.dueHouse(SOUND + "bed s 0 0;", -29, 3);
        c.dueHouse(BED + OWL + "bed o 1 0;", -25, 3);
        StringBuilder six = new StringBuilder();
        for (int i = 0; i < 6; i++) {
            six.append("bed b").append((char) ('a' + i)).append(' ').append(i).append(" 0;");
        }
        c.dueHouse(six.toString(), 6, 0);
        c.dueHouse(six + "bed", -67, 4);
        c.dueHouse(six + "bed ba 9 9;", -67, 4);
    }

    private static void owlLine() {
        c.dueHouse(BED + OWL, 2, 0);
        c.dueHouse(BED + "owl o a 20;", 2, 0);
        c.dueHouse(BED + "owl o a 0;", -19, 2);
        c.dueHouse(BED + "owl o a 21;", -19, 2);
        c.dueHouse(BED + "owl o a;", -18, 1);
        c.dueHouse(BED + "owl a a 1;", -15, 3);
        c.dueHouse(BED + "owl o o 1;", -17, 3);
        c.dueHouse(BED + "owl o b 1;", -17, 3);
        c.dueHouse(BED + "owl o east 1;", -17, 1);
        c.dueHouse(BED + "owl o 1 1;", -17, 1);
        c.dueHouse(SOUND + "owl o s 1;", -31, 3);
        c.dueHouse(BED + OWL + "owl p a 1;", -27, 3);
        c.dueHouse(BED + OWL + "bed b 1 0;owl p b 1;", 4, 0);
        c.dueHouse(BED + OWL + "owl o a 1;", -25, 3);
        StringBuilder six = new StringBuilder();
        for (int i = 0; i < 6; i++) {
            six.append("bed b").append((char) ('a' + i)).append(' ').append(i).append(" 0;");
            six.append("owl o").append((char) ('a' + i)).append(" b").append((char) ('a' + i)).append(" 1;");
        }
        c.dueHouse(six.toString(), 12, 0);
        c.dueHouse(six + "owl", -139, 4);
    }

    private static void badAndDeafLines() {
        String with = BED + OWL;
        for (String side : new String[] {"east", "south", "west", "north"}) {
            c.dueHouse(with + "bad o " + side + ";", 3, 0);
        }
        c.dueHouse(with + "bad o here;", -27, 1);
        c.dueHouse(with + "bad o bell;", -27, 1);
        c.dueHouse(with + "bad a east;", -25, 3);
        c.dueHouse(with + "bad p east;", -25, 3);
        c.dueHouse(with + "bad o east;bad o east;", -36, 3);
        for (String kind : new String[] {"mouse", "voice", "road", "bell"}) {
            c.dueHouse(with + "deaf o " + kind + ";", 3, 0);
        }
        c.dueHouse(with + "deaf o east;", -28, 1);
        c.dueHouse(with + "deaf a bell;", -26, 3);
        c.dueHouse(with + "deaf o bell;deaf o road;deaf o mouse;deaf o voice;", 6, 0);
        c.dueHouse(with + "deaf o bell;deaf o road;deaf o bell;", -52, 3);
    }

    private static void soundLine() {
        c.dueHouse(SOUND, 1, 0);
        c.dueHouse("sound s voice 5 5 30 23 23;", 1, 0);
        c.dueHouse("sound s cat 5 5 30 23 23;", -9, 1);
        c.dueHouse("sound s road 6 5 30 23 23;", -14, 2);
        c.dueHouse("sound s road 5 6 30 23 23;", -16, 2);
        c.dueHouse("sound s road 5 5 0 23 23;", -18, 2);
        c.dueHouse("sound s road 5 5 31 23 23;", -18, 2);
        c.dueHouse("sound s road 5 5 30 24 23;", -21, 2);
        c.dueHouse("sound s road 5 5 30 23 24;", -24, 2);
        c.dueHouse("sound s road 5 5 30 23;", -23, 1);
        c.dueHouse(SOUND + SOUND, -31, 3);
        c.dueHouse(BED + "sound a bell 0 0 1 0 0;", -17, 3);
        StringBuilder eight = new StringBuilder();
        for (int i = 0; i < 8; i++) {
            eight.append("sound ").append((char) ('a' + i)).append(" mouse 0 0 1 0 0;");
        }
        c.dueHouse(eight.toString(), 8, 0);
        c.dueHouse(eight + "sound", -193, 4);
    }

    private static void wantsAndShutLines() {
        c.dueHouse(BED + "wants a bell;", 2, 0);
        c.dueHouse("wants a bell;", -7, 3);
        c.dueHouse(BED + OWL + "wants o bell;", -27, 3);
        c.dueHouse(BED + "wants a bell;wants a road;", -30, 3);
        c.dueHouse(BED + "wants a north;", -19, 1);
        c.dueHouse("shut 0 23;", 1, 0);
        c.dueHouse("shut 24 23;", -6, 2);
        c.dueHouse("shut 23 0;", 1, 0);
        c.dueHouse("shut 0 24;", -8, 2);
        c.dueHouse("shut 6 17;shut 6 17;", -11, 3);
        c.dueHouse("shut 6;", -7, 1);
    }

    private static void lengths() {
        c.dueHouse(BED + " ".repeat(890), 1, 0);
        c.dueHouse(BED + " ".repeat(891), -901, 1);
        c.dueHouse(" ".repeat(890) + BED, 1, 0);
        c.dueHouse(" ".repeat(891) + BED, -901, 1);
        c.dueHouse("bed a" + " ".repeat(900), -901, 1);
        c.dueHouse("bed a" + " ".repeat(800), -806, 1);
        c.dueHouse(BED + " ".repeat(890) + "bed b 1 0;", -901, 1);
        c.dueHouse(BED + "bed" + " ".repeat(887) + "a 1 0;", -901, 1);
        // a token that begins ahead of the 900th byte is read whole
        c.dueHouse(" ".repeat(899) + "zz;", -900, 1);
        c.dueHouse("bed" + " ".repeat(895) + "abcdefgh 0 0;", -899, 1);
        c.dueHouse("bed" + " ".repeat(895) + "abcdefg 0 0;", -901, 1);
        c.dueHouse("bed ab 0 0;bed" + " ".repeat(885) + "ab 1 0;", -900, 3);
        c.dueHouse("bed a 0 0;bed a" + " ".repeat(900), -15, 3);
    }

    private static void faultStays() {
        OwlsLent x = Checks.houseOf("house 4 5;" + BED + OWL);
        x.hours(3);
        Checks.put(x, "bed b 1 1;bed b 2 2;");
        c.due("a fault", x.house(), -15);
        c.due("its kind", x.fault(), 3);
        c.due("the tape is empty then", x.count(5), 0);
        c.due("the house stays: beds", x.count(0), 1);
        c.due("the house stays: wide", x.count(3), 4);
        c.due("the hour stays", x.now(0), 3);
        c.due("what was done can be undone still", x.undo(), 0);
        c.due("fault() once more", x.fault(), 3);
        Checks.put(x, "house 9 9;");
        c.due("a new house", x.house(), 1);
        c.due("no fault then", x.fault(), 0);
        c.due("a new house: no beds", x.count(0), 0);
        c.due("a new house: high", x.count(4), 9);
        Checks.put(x, "hour 0;");
        c.due("a book's fault", x.book(0), -7);
        c.due("its kind 2", x.fault(), 2);
        Checks.put(x, "hour 1;");
        c.due("a book of no kind", x.book(-1), -1000);
        c.due("leaves the fault", x.fault(), 2);
        c.due("and the tape", x.count(5), 7);
        c.due("no fault", x.book(0), -1);
        c.due("no kind", x.fault(), 0);
        c.due("an empty tape is no sentence", x.sentence(), -1);
        c.due("a sentence's kind", x.fault(), 1);
        c.due("an empty tape is a house", x.house(), 0);
        c.due("6 wide again", x.count(3), 6);
        c.due("no fault of it", x.fault(), 0);
    }

    private static final String ALMS = "house 7 6;bed mid 3 3;bed top 2 0;owl ear mid 4;bad ear west;deaf ear road;"
        + "deaf ear mouse;sound pip voice 5 3 10 0 23;sound car road 3 3 30 22 1;sound din bell 0 3 20 2 2;"
        + "wants top bell;shut 10 11;";

    private static void beds() {
        OwlsLent x = Checks.houseOf(ALMS);
        c.due("bed(0, 0)", x.bed(0, 0), 3);
        c.due("bed(1, 0)", x.bed(1, 0), 2);
        c.due("bed(1, 1)", x.bed(1, 1), 0);
        c.due("bed(0, 2)", x.bed(0, 2), 0);
        c.due("bed(1, 2)", x.bed(1, 2), -1);
        c.due("bed(0, 3)", x.bed(0, 3), -1);
        c.due("bed(1, 3)", x.bed(1, 3), 3);
        // At the first two hours pip (8 loud at mid) is looked at, car (30, and 26 at top) is missed;
        // pip is 10 - 3 - 3 = 4 loud at top.
        x.hours(2);
        c.due("bed(0, 4)", x.bed(0, 4), 2);
        c.due("bed(0, 5)", x.bed(0, 5), 2);
        c.due("bed(1, 4)", x.bed(1, 4), 0);
        c.due("bed(1, 5)", x.bed(1, 5), 2);
        c.dueNoSuch("bed(2, 0)", () -> x.bed(2, 0));
        c.dueNoSuch("bed(-1, 0)", () -> x.bed(-1, 0));
        c.dueNoSuch("bed(0, 6)", () -> x.bed(0, 6));
        c.dueNoSuch("bed(0, -1)", () -> x.bed(0, -1));
        c.dueNoSuch("bed(MAX, MIN)", () -> x.bed(Integer.MAX_VALUE, Integer.MIN_VALUE));
    }

    private static void owls() {
        OwlsLent x = Checks.houseOf(ALMS);
        int[] due = {0, 4, 2, 5, 0, 0};
        for (int what = 0; what < 6; what++) {
            c.due("owl(0, " + what + ")", x.owl(0, what), due[what]);
        }
        x.hush(0);
        c.due("it looks nowhere", x.owl(0, 4), -1);
        c.due("at nothing", x.owl(0, 5), -1);
        x.shout(3, 3, 4);
        c.due("it looks here", x.owl(0, 4), 4);
        c.due("at the shout, behind all sounds", x.owl(0, 5), 3);
        c.due("that is something", x.now(3), 1);
        c.dueNoSuch("owl(1, 0)", () -> x.owl(1, 0));
        c.dueNoSuch("owl(-1, 0)", () -> x.owl(-1, 0));
        c.dueNoSuch("owl(0, 6)", () -> x.owl(0, 6));
        c.dueNoSuch("owl(0, -1)", () -> x.owl(0, -1));
        OwlsLent plain = Checks.houseOf(BED + OWL);
        c.due("no bad side", plain.owl(0, 2), -1);
        c.due("deaf to nothing", plain.owl(0, 3), 0);
    }

    private static void sounds() {
        OwlsLent x = Checks.houseOf(ALMS);
        int[] due = {2, 3, 3, 30, 1, 0};
        for (int what = 0; what < 6; what++) {
            c.due("sound(1, " + what + ")", x.sound(1, what), due[what]);
        }
        c.due("din is not on at 0", x.sound(2, 4), 0);
        x.hush(1);
        c.due("hushed: not on", x.sound(1, 4), 0);
        c.due("hushed", x.sound(1, 5), 1);
        x.let(1);
        c.due("let", x.sound(1, 5), 0);
        x.hours(1);
        c.due("car is on at 1", x.sound(1, 4), 1);
        c.due("din is not on at 1", x.sound(2, 4), 0);
        x.hours(1);
        c.due("car is off at 2", x.sound(1, 4), 0);
        c.due("din is on at 2", x.sound(2, 4), 1);
        x.hours(1);
        c.due("din is off at 3", x.sound(2, 4), 0);
        x.hours(18);
        c.due("car is off at 21", x.sound(1, 4), 0);
        x.hours(1);
        c.due("car is on at 22", x.sound(1, 4), 1);
        x.hours(28);
        c.due("din is on on the third day", x.sound(2, 4), 1);
        x.shout(0, 0, 1);
        c.due("the shout is no sound", x.sound(3, 0), -1);
        c.due("sound(-1, 0)", x.sound(-1, 0), -1);
        c.due("sound(0, 6)", x.sound(0, 6), -1);
        c.due("sound(0, -1)", x.sound(0, -1), -1);
    }

    private static void nows() {
        OwlsLent x = Checks.houseOf(ALMS + "owl sly top 20;");
        c.due("sounds on, as bits", x.now(1), 3);
        x.shout(3, 5, 1);
        c.due("the shout, too", x.now(1), 11);
        c.due("one shout", x.now(7), 1);
        x.hush(1);
        c.due("without the hushed one", x.now(1), 9);
        x.hush(2);
        c.due("hushed, as bits", x.now(2), 6);
        c.due("owls that look, as bits", x.now(3), 1);
        x.hush(0);
        c.due("none but for the shout", x.now(3), 0);
        x.undo();
        x.let(1);
        c.due("both look", x.now(3), 3);
        // mid looks at pip and misses car; top looks at car (26 loud there), nothing else is 5 loud there
        x.hours(1);
        c.due("the hour", x.now(0), 1);
        c.due("the shout is over", x.now(1), 3);
        c.due("all know", x.now(5), 2);
        c.due("all miss", x.now(6), 1);
        c.due("shouts so far", x.now(7), 1);
        x.hours(8);
        c.due("not shut at 9", x.now(4), 0);
        x.hours(1);
        c.due("shut at 10", x.now(4), 1);
        c.due("none looks then", x.now(3), 0);
        x.hours(2);
        c.due("not shut at 12", x.now(4), 0);
        c.due("now(8)", x.now(8), -1);
        c.due("now(-1)", x.now(-1), -1);
        OwlsLent y = Checks.houseOf("shut 20 4;");
        c.due("over midnight: shut at 0", y.now(4), 1);
        y.hours(4);
        c.due("shut at 4", y.now(4), 1);
        y.hours(1);
        c.due("not at 5", y.now(4), 0);
        y.hours(15);
        c.due("shut at 20", y.now(4), 1);
    }

    private static void counts() {
        OwlsLent x = Checks.houseOf(ALMS);
        int[] due = {2, 1, 3, 7, 6, 0};
        for (int what = 0; what < 6; what++) {
            c.due("count(" + what + ")", x.count(what), due[what]);
        }
        x.feed(0, 0, 0, 0, 0);
        c.due("count(5)", x.count(5), 20);
        x.shout(0, 0, 1);
        c.due("a shout is not counted", x.count(2), 3);
        c.due("count(6)", x.count(6), -1);
        c.due("count(-1)", x.count(-1), -1);
    }

    private static void nothingIsLeft() {
        OwlsLent x = Checks.houseOf("house 9 2;bed a 0 0;owl o a 9;bad o east;deaf o bell;wants a road;shut 0 23;");
        Checks.put(x, "bed a 0 0;owl o a 9;");
        x.house();
        c.due("wide", x.count(3), 6);
        c.due("high", x.count(4), 6);
        c.due("no bad side", x.owl(0, 2), -1);
        c.due("deaf to nothing", x.owl(0, 3), 0);
        c.due("wants nothing", x.bed(0, 3), -1);
        c.due("not shut", x.now(4), 0);
        x.hours(17);
        c.due("shut at 17", x.now(4), 1);
        x.hours(1);
        c.due("not at 18", x.now(4), 0);
        x.hours(11);
        c.due("not at 5", x.now(4), 0);
        x.hours(1);
        c.due("shut at 6", x.now(4), 1);
    }
}

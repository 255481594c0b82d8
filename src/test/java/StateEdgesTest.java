/** Each edge that the document names of the tape, of what is so and of its part 2: promises 1 to 3, 6 to 9, 19, 43. */
public final class StateEdgesTest {
    private static final Checks c = new Checks("StateEdgesTest");

    public static void main(String[] args) {
        newObject();
        tapeFull();
        bytesHighestFirst();
        tapeEnds();
        whatIsCutOff();
        counts();
        bedsNoSuch();
        bedsWithoutOwlOrWish();
        owlsNoSuch();
        owlsWithoutSideOrLook();
        soundsNoSuch();
        soundsOnAndHushed();
        nowOfAnother();
        nowOfAll();
        aThrowChangesNothing();
        hoursOfTheDay();
        hoursOverMidnight();
        soundsByHours();
        theShoutsHour();
        howFarHowLoud();
        sidesOfCells();
        hearsFromOn();
        hearsNot();
        looksAtTheFirst();
        missesFromFive();
        knowsAndMisses();
        theLastHour();
        newHouse();
        newHouseLeavesNothing();
        theLastOnes();
        manyCalls();
        c.end();
    }

    private static void newObject() {
        c.says("A HOUSE of 6 by 6 without BEDS; an empty tape");
        OwlsLent x = new OwlsLent();
        int[] counts = {0, 0, 0, 6, 6, 0};
        for (int what = 0; what < 6; what++) {
            c.due("count(" + what + ")", x.count(what), counts[what]);
        }
        for (int what = 0; what < 8; what++) {
            c.due("now(" + what + ")", x.now(what), 0);
        }
        c.due("end(1) of the empty tape", x.end(1), false);
        c.due("end(0) of it", x.end(0), true);
        c.dueNoSuch("bed(0, 0)", () -> x.bed(0, 0));
        c.dueNoSuch("owl(0, 0)", () -> x.owl(0, 0));
        c.dueNoSuch("loud(0, 0)", () -> x.loud(0, 0));
        c.due("sound(0, 0)", x.sound(0, 0), -1);
        c.due("the cell 5 5", x.shout(5, 5, 1), 0);
        c.due("no cell 6 5", new OwlsLent().shout(6, 5, 1), -1);
        c.due("no cell 5 6", new OwlsLent().shout(5, 6, 1), -1);
        c.due("its first shout is number 0", x.now(1), 1);
        OwlsLent another = new OwlsLent();
        c.due("objects have nothing of one another", another.now(7), 0);
        for (int hour = 0; hour < 48; hour++) {
            c.due("shut 6 17 without, at " + hour, another.now(4), hour % 24 >= 6 && hour % 24 <= 17 ? 1 : 0);
            another.hours(1);
        }
    }

    private static void tapeFull() {
        c.says("how many it has; NONE, and none come, if it would have more than 940");
        OwlsLent x = new OwlsLent();
        for (int n = 20; n <= 940; n += 20) {
            c.due("feed() to " + n, x.feed(0x62656420, 0, 0, 0, 0), n);
        }
        c.due("feed() behind 940", x.feed(1, 2, 3, 4, 5), -1);
        c.due("feed() behind 940 once more", x.feed(1, 2, 3, 4, 5), -1);
        c.due("none came", x.count(5), 940);
        for (int n = 939; n >= 921; n--) {
            c.due("end(" + n + ")", x.end(n), true);
            c.due("feed() behind " + n, x.feed(1, 2, 3, 4, 5), -1);
            c.due("none came behind " + n, x.count(5), n);
        }
        c.due("end(920)", x.end(920), true);
        c.due("feed() behind 920", x.feed(1, 2, 3, 4, 5), 940);
        x.end(919);
        c.due("feed() behind 919", x.feed(1, 2, 3, 4, 5), 939);
        x.end(1);
        c.due("feed() behind 1", x.feed(1, 2, 3, 4, 5), 21);
        x.house();
        c.due("feed() behind a text that is read", x.feed(0, 0, 0, 0, 0), 20);
        OwlsLent y = new OwlsLent();
        Checks.put(y, "house 4 5;" + " ".repeat(890));
        c.due("a feed() that does not come", y.end(900), true);
        y.feed(0x20202020, 0x20202020, 0x20202020, 0x20202020, 0x20202020);
        y.feed(0x20202020, 0x20202020, 0x20202020, 0x20202020, 0x20202020);
        c.due("feed() behind 940", y.feed(-1, -1, -1, -1, -1), -1);
        y.end(900);
        c.due("leaves what there is", y.house(), 1);
    }

    private static void bytesHighestFirst() {
        c.says("Twenty bytes come behind the tape, of each number the highest first");
        // "house 2 9;shut 1 2; "
        OwlsLent x = new OwlsLent();
        c.due("feed()", x.feed(0x686f7573, 0x65203220, 0x393b7368, 0x75742031, 0x20323b20), 20);
        c.due("house()", x.house(), 2);
        c.due("wide", x.count(3), 2);
        c.due("high", x.count(4), 9);
        // each of the twenty bytes: a sign that is no token at its place alone
        for (int at = 0; at < 20; at++) {
            int[] five = {0x20202020, 0x20202020, 0x20202020, 0x20202020, 0x20202020};
            int shift = 24 - 8 * (at % 4);
            five[at / 4] = five[at / 4] & ~(255 << shift) | 255 << shift;
            x.feed(five[0], five[1], five[2], five[3], five[4]);
            c.due("the place of byte " + at, x.house(), -1 - at);
            c.due("it is no token", x.fault(), 1);
        }
        // behind what there is, also behind an end
        x.feed(0x626564ff, 0, 0, 0, 0);
        x.end(3);
        x.feed(0x20612030, 0x20303bff, 0, 0, 0);
        c.due("end(10)", x.end(10), true);
        c.due("house()", x.house(), 1);
        c.due("a bed", x.count(0), 1);
    }

    private static void tapeEnds() {
        c.says("true; false, if it has not so many, or n is below 0");
        OwlsLent x = new OwlsLent();
        for (int n : Checks.NO_SUCH) {
            c.due("end(" + n + ") of nothing", x.end(n), false);
        }
        c.due("end(0) of nothing", x.end(0), true);
        x.feed(0, 0, 0, 0, 0);
        c.due("end(21) of 20", x.end(21), false);
        c.due("end(-1) of 20", x.end(-1), false);
        c.due("20 still", x.count(5), 20);
        c.due("end(20) of 20", x.end(20), true);
        c.due("20 then", x.count(5), 20);
        c.due("end(19) of 20", x.end(19), true);
        c.due("19 then", x.count(5), 19);
        c.due("end(20) of 19", x.end(20), false);
        c.due("end(0) of 19", x.end(0), true);
        c.due("0 then", x.count(5), 0);
        c.due("end(1) of none", x.end(1), false);
    }

    /** The bytes told, and behind them, cut off again, such as would make it another tape. */
    private static void cut(OwlsLent x, String text, int behind) {
        x.end(0);
        for (int i = 0; i < 3; i++) {
            int four = behind << 24 | behind << 16 | behind << 8 | behind;
            x.feed(four, four, four, four, four);
        }
        x.end(0);
        int length = text.length();
        for (int at = 0; at < length; at += 20) {
            int[] five = new int[5];
            for (int i = 0; i < 20; i++) {
                int b = at + i < length ? text.charAt(at + i) : behind;
                five[i / 4] |= b << 24 - 8 * (i % 4);
            }
            x.feed(five[0], five[1], five[2], five[3], five[4]);
        }
        c.due("end(" + length + ")", x.end(length), true);
    }

    private static void whatIsCutOff() {
        c.says("The tape has its first n bytes alone");
        String house = Checks.beds(2) + Checks.owls(2) + Checks.sounds(2);
        for (int behind : new int[] {0, 1, 4, 5, 32, '0', '9', ';', 'a', 'z', '@', 255}) {
            OwlsLent x = Checks.houseOf(house);
            cut(x, new String(new char[] {9, 0, 4}), behind);
            c.due("spots(), behind them " + behind, x.spots(), 1);
            cut(x, new String(new char[] {9, 0, 4, 1, 2}), behind);
            c.due("spots() of two, behind them " + behind, x.spots(), 1);
            cut(x, new String(new char[] {9, 4, 1}), behind);
            c.due("keen(), behind them " + behind, x.keen(), 5);
            cut(x, new String(new char[] {4}), behind);
            c.due("code(), behind them " + behind, x.code(0), 1);
            cut(x, new String(new char[] {4, 4, 4, 4, 4, 4, 4}), behind);
            c.due("code() of seven, behind them " + behind, x.code(0), 7);
            cut(x, "hush sa;hour 1;", behind);
            c.due("book(), behind it " + behind, x.book(0), -1);
            cut(x, "number=1", behind);
            c.due("sentence(), behind it " + behind, x.sentence(), 1);
            c.due("said() of it", x.said(0), 1);
            cut(x, "hush sa", behind);
            c.due("a book's end, behind it " + behind, x.book(0), -9);
            cut(x, "by o", behind);
            c.due("a sentence's end, behind it " + behind, x.sentence(), -4);
            cut(x, "", behind);
            c.due("keen() of none, behind it " + behind, x.keen(), -1);
            cut(x, "bed a 0 0;shut 1 2", behind);
            c.due("a house's end, behind it " + behind, x.house(), -19);
            cut(x, "bed a 0 0;shut 1 2;", behind);
            c.due("house(), behind it " + behind, x.house(), 2);
        }
    }

    private static void counts() {
        c.says("0 BEDS, 1 OWLS, 2 SOUNDS, 3 WIDE, 4 HIGH, 5 bytes of the tape. NONE for another what");
        OwlsLent x = Checks.houseOf("house 9 7;" + Checks.beds(6) + Checks.owls(6) + Checks.sounds(8));
        int[] due = {6, 6, 8, 9, 7, 0};
        for (int what = 0; what < 6; what++) {
            c.due("count(" + what + ")", x.count(what), due[what]);
        }
        c.due("count(6)", x.count(6), -1);
        for (int what : Checks.NO_SUCH) {
            c.due("count(" + what + ")", x.count(what), -1);
        }
        x.shout(0, 0, 1);
        c.due("a shout is no sound", x.count(2), 8);
    }

    private static void bedsNoSuch() {
        c.says("Of a BED: 0 X .. 5 MISSES. NoSuchElementException: no such ones");
        for (int beds = 0; beds <= 6; beds++) {
            OwlsLent x = Checks.houseOf(Checks.beds(beds) + Checks.owls(beds));
            for (int b = 0; b < 8; b++) {
                int bed = b;
                if (b < beds) {
                    c.due("bed(" + b + ", 0) of " + beds, x.bed(b, 0), b);
                    c.due("bed(" + b + ", 5) of " + beds, x.bed(b, 5), 0);
                } else {
                    c.dueNoSuch("bed(" + b + ", 0) of " + beds, () -> x.bed(bed, 0));
                    c.dueNoSuch("bed(" + b + ", 5) of " + beds, () -> x.bed(bed, 5));
                }
            }
            for (int no : Checks.NO_SUCH) {
                c.dueNoSuch("bed(" + no + ", 0)", () -> x.bed(no, 0));
                c.dueNoSuch("bed(0, " + no + ")", () -> x.bed(0, no));
                c.dueNoSuch("bed(" + no + ", " + no + ")", () -> x.bed(no, no));
            }
            c.dueNoSuch("bed(0, 6)", () -> x.bed(0, 6));
        }
    }

    private static void bedsWithoutOwlOrWish() {
        c.says("2 its OWL (NONE), 3 the KIND that it wants (NONE)");
        OwlsLent x = Checks.houseOf("bed a 0 0;bed b 1 0;bed d 2 0;owl o b 1;owl p a 1;wants d mouse;wants a bell;");
        int[] owls = {1, 0, -1};
        int[] wants = {3, -1, 0};
        for (int b = 0; b < 3; b++) {
            c.due("the owl of " + b, x.bed(b, 2), owls[b]);
            c.due("the wish of " + b, x.bed(b, 3), wants[b]);
        }
        x.lend(0, 2);
        c.due("lent away", x.bed(1, 2), -1);
        c.due("lent here", x.bed(2, 2), 0);
    }

    private static void owlsNoSuch() {
        c.says("Of an OWL: 0 its BED .. 5 at which SOUND. NoSuchElementException: no such ones");
        for (int owls = 0; owls <= 6; owls++) {
            OwlsLent x = Checks.houseOf(Checks.beds(owls) + Checks.owls(owls));
            for (int o = 0; o < 8; o++) {
                int owl = o;
                if (o < owls) {
                    c.due("owl(" + o + ", 0) of " + owls, x.owl(o, 0), o);
                    c.due("owl(" + o + ", 5) of " + owls, x.owl(o, 5), -1);
                } else {
                    c.dueNoSuch("owl(" + o + ", 0) of " + owls, () -> x.owl(owl, 0));
                    c.dueNoSuch("owl(" + o + ", 5) of " + owls, () -> x.owl(owl, 5));
                }
            }
            for (int no : Checks.NO_SUCH) {
                c.dueNoSuch("owl(" + no + ", 0)", () -> x.owl(no, 0));
                c.dueNoSuch("owl(0, " + no + ")", () -> x.owl(0, no));
                c.dueNoSuch("owl(" + no + ", " + no + ")", () -> x.owl(no, no));
            }
            c.dueNoSuch("owl(0, 6)", () -> x.owl(0, 6));
        }
        OwlsLent lone = Checks.houseOf("bed a 0 0;bed b 1 0;owl o a 1;");
        c.dueNoSuch("a bed's number is no owl's", () -> lone.owl(1, 0));
    }

    private static void owlsWithoutSideOrLook() {
        c.says("2 its bad SIDE (NONE), 3 KINDS to which it is deaf, as bits, 4 (4: here; NONE: nowhere), 5 (NONE)");
        OwlsLent x = Checks.houseOf("bed a 0 0;bed b 1 0;owl o a 1;owl p b 20;bad p north;deaf p mouse;deaf p bell;"
            + "sound s road 5 5 30 1 1;");
        c.due("no bad side", x.owl(0, 2), -1);
        c.due("north", x.owl(1, 2), 3);
        c.due("deaf to nothing", x.owl(0, 3), 0);
        c.due("deaf to mouse and bell", x.owl(1, 3), 9);
        c.due("from 1 on", x.owl(0, 1), 1);
        c.due("from 20 on", x.owl(1, 1), 20);
        c.due("nowhere", x.owl(0, 4), -1);
        c.due("at nothing", x.owl(0, 5), -1);
        x.shout(0, 0, 1);
        c.due("here", x.owl(0, 4), 4);
        c.due("at the shout: as many as there are sounds", x.owl(0, 5), 1);
        c.due("p does not hear it", x.owl(1, 4), -1);
        x.hours(1);
        c.due("east: as far off by X as by Y", x.owl(0, 4), 0);
        c.due("at s", x.owl(0, 5), 0);
        c.due("south: farther off by Y", x.owl(1, 4), 1);
        OwlsLent shut = Checks.houseOf("bed a 0 0;owl o a 1;sound s road 0 0 30 0 23;shut 0 0;");
        c.due("shut: nowhere", shut.owl(0, 4), -1);
        c.due("shut: at nothing", shut.owl(0, 5), -1);
        for (int n = 0; n <= 8; n++) {
            OwlsLent y = Checks.houseOf("bed a 0 0;owl o a 1;" + Checks.sounds(n));
            y.shout(0, 0, 30);
            c.due("the number of the shout behind " + n, y.owl(0, 5), n);
        }
    }

    private static void soundsNoSuch() {
        c.says("Of a SOUND: 0 KIND .. 5 hushed. NONE: no such ones");
        for (int sounds = 0; sounds <= 8; sounds++) {
            OwlsLent x = Checks.houseOf(Checks.sounds(sounds));
            for (int s = 0; s < 10; s++) {
                c.due("sound(" + s + ", 3) of " + sounds, x.sound(s, 3), s < sounds ? 9 : -1);
                c.due("sound(" + s + ", 0) of " + sounds, x.sound(s, 0), s < sounds ? 0 : -1);
                c.due("sound(" + s + ", 5) of " + sounds, x.sound(s, 5), s < sounds ? 0 : -1);
            }
            for (int no : Checks.NO_SUCH) {
                c.due("sound(" + no + ", 0)", x.sound(no, 0), -1);
                c.due("sound(0, " + no + ")", x.sound(0, no), -1);
            }
            c.due("sound(0, 6)", x.sound(0, 6), -1);
        }
    }

    private static void soundsOnAndHushed() {
        c.says("4 whether it is ON (1, 0), 5 hushed (1, 0); ON at its hours, if it is not hushed");
        OwlsLent x = Checks.houseOf("sound s mouse 0 0 9 1 1;sound t mouse 0 0 9 0 0;");
        int[][] due = {{0, 0, 1, 0}, {0, 0, 0, 1}, {0, 0, 1, 0}};
        for (int step = 0; step < 3; step++) {
            c.due("s is on", x.sound(0, 4), due[step][0]);
            c.due("s is hushed", x.sound(0, 5), due[step][1]);
            c.due("t is on", x.sound(1, 4), due[step][2]);
            c.due("t is hushed", x.sound(1, 5), due[step][3]);
            if (step == 0) {
                x.hush(1);
            } else {
                x.let(1);
            }
        }
        x.hush(0);
        c.due("hushed, though it is not on", x.sound(0, 5), 1);
        x.hours(1);
        c.due("hushed: not on at its hour", x.sound(0, 4), 0);
        x.let(0);
        c.due("let: on", x.sound(0, 4), 1);
    }

    private static void nowOfAnother() {
        c.says("NONE for another what");
        OwlsLent x = Checks.houseOf(Checks.beds(1) + Checks.owls(1) + Checks.sounds(1));
        c.due("now(8)", x.now(8), -1);
        for (int what : Checks.NO_SUCH) {
            c.due("now(" + what + ")", x.now(what), -1);
        }
    }

    private static void nowOfAll() {
        c.says("1 SOUNDS that are ON (the SHOUT, too), 2 hushed, 3 OWLS that LOOK at something, as bits each");
        OwlsLent x = Checks.houseOf(Checks.beds(6) + Checks.owls(6) + Checks.sounds(8));
        c.due("all eight are on", x.now(1), 255);
        c.due("all six look", x.now(3), 63);
        x.shout(0, 0, 1);
        c.due("the shout is the ninth", x.now(1), 511);
        for (int s = 0; s < 8; s++) {
            x.hush(s);
        }
        c.due("the shout alone", x.now(1), 256);
        c.due("all are hushed", x.now(2), 255);
        c.due("it is 1 loud where it is", x.now(3), 1);
        x.hours(1);
        c.due("nothing is on", x.now(1), 0);
        c.due("nobody looks", x.now(3), 0);
        c.says("5 how often all KNOW, 6 MISS, 7 SHOUTS so far");
        c.due("one knew", x.now(5), 1);
        c.due("a shout of 1 is missed by nobody", x.now(6), 0);
        c.due("one shout", x.now(7), 1);
        for (int s = 0; s < 8; s++) {
            x.let(s);
        }
        x.hours(1);
        // 9 loud at a .. 4 at f: five of the beds miss seven each
        c.due("six more know", x.now(5), 7);
        c.due("five miss seven each", x.now(6), 35);
        x.shout(0, 0, 1);
        x.shout(0, 0, 1);
        c.due("two shouts", x.now(7), 2);
    }

    private static void aThrowChangesNothing() {
        c.says("A call that throws changes nothing");
        OwlsLent x = Checks.houseOf(Checks.beds(2) + Checks.owls(2) + Checks.sounds(2));
        x.hush(0);
        x.hours(2);
        x.feed(1, 2, 3, 4, 5);
        Checks.put(x, "@");
        x.sentence();
        x.feed(1, 2, 3, 4, 5);
        c.dueNoSuch("bed(2, 0)", () -> x.bed(2, 0));
        c.dueNoSuch("owl(2, 0)", () -> x.owl(2, 0));
        c.dueNoSuch("loud(2, 0)", () -> x.loud(2, 0));
        c.dueNoSuch("loud(0, 2)", () -> x.loud(0, 2));
        int[] nows = {2, 2, 1, 3, 0, 4, 0, 0};
        for (int what = 0; what < 8; what++) {
            c.due("now(" + what + ")", x.now(what), nows[what]);
        }
        c.due("the tape", x.count(5), 20);
        c.due("the fault", x.fault(), 1);
        c.due("what can be undone", x.undo(), 1);
    }

    private static void hoursOfTheDay() {
        c.says("The hour of the day is HOUR modulo 24. FROM TILL: from the hour FROM on, TILL too");
        for (int from = 0; from <= 400; from += 100) {
            OwlsLent x = Checks.houseAt("sound s mouse 0 0 9 3 5;shut 7 7;", from);
            for (int hour = from; hour <= Math.min(400, from + 100); hour++) {
                int h = hour % 24;
                c.due("s is on at " + hour, x.sound(0, 4), h >= 3 && h <= 5 ? 1 : 0);
                c.due("shut at " + hour, x.now(4), h == 7 ? 1 : 0);
                x.hours(1);
            }
        }
    }

    private static void hoursOverMidnight() {
        c.says("FROM above TILL: over midnight");
        int[][] fromTill = {{23, 0}, {22, 1}, {1, 0}, {12, 11}, {23, 22}, {23, 23}, {0, 0}, {0, 23}, {0, 1}, {5, 4}};
        for (int[] f : fromTill) {
            OwlsLent x = Checks.houseOf("sound s mouse 0 0 9 " + f[0] + " " + f[1] + ";shut " + f[0] + " " + f[1] + ";");
            for (int hour = 0; hour < 49; hour++) {
                boolean due = false;
                for (int h = f[0]; ; h = (h + 1) % 24) {
                    due = due || h == hour % 24;
                    if (h == f[1]) {
                        break;
                    }
                }
                c.due("on from " + f[0] + " till " + f[1] + " at " + hour, x.sound(0, 4), due ? 1 : 0);
                c.due("shut from " + f[0] + " till " + f[1] + " at " + hour, x.now(4), due ? 1 : 0);
                x.hours(1);
            }
        }
    }

    private static void soundsByHours() {
        c.says("OWLS are SHUT at the hours of 'shut'; an OWL that is not SHUT HEARS");
        OwlsLent x = Checks.houseOf("bed a 0 0;owl o a 1;sound s mouse 0 0 9 0 23;shut 22 2;");
        for (int hour = 0; hour < 48; hour++) {
            boolean shut = hour % 24 >= 22 || hour % 24 <= 2;
            c.due("hears at " + hour, x.hears(0), shut ? 0 : 1);
            c.due("looks at " + hour, x.owl(0, 5), shut ? -1 : 0);
            c.due("would at " + hour, x.would(0, 0), shut ? -1 : 4);
            x.hours(1);
        }
        c.due("it knew when it was not shut", x.bed(0, 4), 38);
        c.due("it missed when it was", x.bed(0, 5), 10);
    }

    private static void theShoutsHour() {
        c.says("a SHOUT in its HOUR (a voice; its number: as many as there are SOUNDS); nobody has shouted");
        OwlsLent x = Checks.houseOf("bed a 0 0;bed b 1 0;owl o a 1;owl p b 1;deaf o voice;sound s bell 0 0 9 5 5;");
        x.shout(1, 0, 9);
        c.due("on", x.now(1), 2);
        c.due("o is deaf to voices", x.owl(0, 5), -1);
        c.due("p looks at it", x.owl(1, 5), 1);
        c.due("p hears it", x.hears(1), 2);
        c.due("once in an hour", x.shout(0, 0, 1), 1);
        x.hours(1);
        c.due("over", x.now(1), 0);
        c.due("nobody has shouted", x.shout(0, 0, 1), 0);
        x.hours(24);
        c.due("not on at the same hour of the next day", x.now(1), 0);
        c.due("two so far", x.now(7), 2);
    }

    private static void howFarHowLoud() {
        c.says("as loud as it is LOUD less how far it is (by X and by Y together)");
        OwlsLent x = Checks.houseOf("house 9 9;bed a 0 0;bed b 8 8;bed d 8 0;bed e 0 8;bed f 4 4;bed g 4 3;"
            + "sound s mouse 0 0 1 0 0;sound t bell 8 8 30 1 1;sound u road 4 4 16 0 23;");
        int[][] due = {{1, -15, -7, -7, -7, -6}, {14, 30, 22, 22, 22, 21}, {8, 8, 8, 8, 16, 15}};
        for (int s = 0; s < 3; s++) {
            for (int b = 0; b < 6; b++) {
                c.due("loud(" + s + ", " + b + ")", x.loud(s, b), due[s][b]);
            }
        }
        c.says("How loud a SOUND is at a BED, whether it is ON or not (below 0, too). NoSuchElementException: no such ones");
        x.hush(2);
        c.due("hushed", x.loud(2, 4), 16);
        x.shout(0, 0, 1);
        c.dueNoSuch("the shout is no sound", () -> x.loud(3, 0));
        c.dueNoSuch("loud(0, 6)", () -> x.loud(0, 6));
        for (int no : Checks.NO_SUCH) {
            c.dueNoSuch("loud(" + no + ", 0)", () -> x.loud(no, 0));
            c.dueNoSuch("loud(0, " + no + ")", () -> x.loud(0, no));
            c.dueNoSuch("loud(" + no + ", " + no + ")", () -> x.loud(no, no));
        }
    }

    private static void sidesOfCells() {
        c.says("by X (east, west), if it is as far off by X as by Y or more, else by Y; 4: it is the same cell");
        for (int sx = 0; sx < 9; sx++) {
            for (int sy = 0; sy < 9; sy++) {
                OwlsLent x = Checks.houseOf("house 9 9;bed a 4 4;owl o a 1;sound s mouse " + sx + " " + sy + " 30 0 23;");
                int far = sx > 4 ? sx - 4 : 4 - sx;
                int deep = sy > 4 ? sy - 4 : 4 - sy;
                int due = far >= deep ? sx > 4 ? 0 : 2 : sy > 4 ? 1 : 3;
                c.due("the side of " + sx + " " + sy, x.owl(0, 4), sx == 4 && sy == 4 ? 4 : due);
            }
        }
    }

    private static void hearsFromOn() {
        c.says("as loud at its BED as told from on, at least");
        for (int n = 1; n <= 20; n++) {
            String bed = "house 9 9;bed a 1 1;owl o a " + n + ";sound s mouse 1 3 ";
            c.due("as loud as " + n, Checks.houseOf(bed + (n + 2) + " 0 0;").hears(0), 1);
            c.due("less loud than " + n, Checks.houseOf(bed + (n + 1) + " 0 0;").hears(0), 0);
            OwlsLent x = Checks.houseOf("bed a 1 1;owl o a " + n + ";");
            x.shout(1, 1, n);
            c.due("a shout as loud as " + n, x.hears(0), 1);
            OwlsLent y = Checks.houseOf("bed a 1 1;owl o a " + n + ";");
            y.shout(1, 2, n);
            c.due("a shout less loud than " + n, y.hears(0), 0);
        }
    }

    private static void hearsNot() {
        c.says("of a KIND to which it is not deaf, not on its bad SIDE");
        String[] kinds = {"mouse", "voice", "road", "bell"};
        String[] sides = {"east", "south", "west", "north"};
        int[][] cells = {{2, 1}, {1, 2}, {0, 1}, {1, 0}, {1, 1}};
        for (int i = 0; i < 4; i++) {
            for (int k = 0; k < 4; k++) {
                OwlsLent deaf = Checks.houseOf("bed a 1 1;owl o a 1;deaf o " + kinds[i] + ";sound s " + kinds[k]
                    + " 0 0 9 0 0;");
                c.due("deaf to " + kinds[i] + ", a " + kinds[k], deaf.hears(0), i == k ? 0 : 1);
            }
            for (int k = 0; k < 5; k++) {
                OwlsLent bad = Checks.houseOf("bed a 1 1;owl o a 1;bad o " + sides[i] + ";sound s bell " + cells[k][0] + " "
                    + cells[k][1] + " 9 0 0;");
                c.due("its bad side " + sides[i] + ", a sound at side " + k, bad.hears(0), i == k ? 0 : 1);
            }
        }
        OwlsLent all = Checks.houseOf("bed a 1 1;owl o a 1;deaf o mouse;deaf o voice;deaf o road;deaf o bell;"
            + Checks.sounds(8));
        all.shout(1, 1, 30);
        c.due("deaf to all", all.hears(0), 0);
    }

    private static void looksAtTheFirst() {
        c.says("it LOOKS at the loudest of these (of like ones the first)");
        OwlsLent x = Checks.houseOf("bed a 0 0;owl o a 1;" + Checks.sounds(8));
        for (int s = 0; s < 8; s++) {
            c.due("the first of like ones", x.owl(0, 5), s);
            x.hush(s);
        }
        c.due("nothing", x.owl(0, 5), -1);
        x.shout(0, 0, 9);
        c.due("the shout", x.owl(0, 5), 8);
        x.let(7);
        c.due("a like sound is ahead of the shout", x.owl(0, 5), 7);
        x.let(0);
        c.due("the first", x.owl(0, 5), 0);
        OwlsLent y = Checks.houseOf("bed a 0 0;owl o a 1;sound s mouse 0 0 9 0 23;sound t mouse 0 1 11 0 23;"
            + "sound u mouse 1 0 11 0 23;");
        c.due("loud at its bed, not where it is", y.owl(0, 5), 1);
        c.due("south", y.owl(0, 4), 1);
        y.shout(5, 5, 20);
        c.due("10 loud as the first of the like ones", y.owl(0, 5), 1);
        y.undo();
        y.shout(5, 5, 21);
        c.due("one louder", y.owl(0, 5), 3);
    }

    private static void missesFromFive() {
        c.says("that are ON, 5 loud or more at it, and at which its OWL does not LOOK");
        for (int loud = 1; loud <= 10; loud++) {
            OwlsLent x = Checks.houseOf("bed a 0 0;bed b 0 1;sound s mouse 0 0 " + loud + " 0 0;");
            x.hours(1);
            c.due(loud + " loud at a", x.bed(0, 5), loud >= 5 ? 1 : 0);
            c.due(loud + " less 1 loud at b", x.bed(1, 5), loud >= 6 ? 1 : 0);
            x.hours(1);
            c.due("not on any more", x.now(6), (loud >= 5 ? 1 : 0) + (loud >= 6 ? 1 : 0));
            OwlsLent y = Checks.houseOf("bed a 0 0;bed b 0 1;");
            y.shout(0, 0, loud);
            y.hours(2);
            c.due("a shout of " + loud, y.now(6), (loud >= 5 ? 1 : 0) + (loud >= 6 ? 1 : 0));
        }
    }

    private static void knowsAndMisses() {
        c.says("each BED whose OWL LOOKS at something KNOWS once more; each BED MISSES as many more as there are");
        // o looks at t alone of eight that are 9 loud; by b nobody looks; p is deaf
        OwlsLent x = Checks.houseOf("bed a 0 0;bed b 1 0;bed d 0 1;owl o a 1;owl p d 1;deaf p mouse;" + Checks.sounds(8));
        x.hours(1);
        c.due("a knows", x.bed(0, 4), 1);
        c.due("a misses seven", x.bed(0, 5), 7);
        c.due("b knows nothing", x.bed(1, 4), 0);
        c.due("b misses eight", x.bed(1, 5), 8);
        c.due("d knows nothing", x.bed(2, 4), 0);
        c.due("d misses eight", x.bed(2, 5), 8);
        x.shout(0, 0, 30);
        x.hours(1);
        c.due("a looks at the shout: it misses eight", x.bed(0, 5), 15);
        c.due("b misses nine", x.bed(1, 5), 17);
        for (int s = 1; s < 8; s++) {
            x.hush(s);
        }
        x.hours(1);
        c.due("a misses nothing", x.bed(0, 5), 15);
        c.due("a knows once more, not by how loud", x.bed(0, 4), 3);
        c.due("hushed ones are not missed", x.bed(1, 5), 18);
        x.hush(0);
        x.hours(1);
        c.due("nothing to know", x.bed(0, 4), 3);
        c.due("to hour 6", x.hours(6 - x.now(0)), 2);
        x.let(0);
        x.hours(1);
        c.due("shut: a knows nothing", x.bed(0, 4), 3);
        c.due("shut: a misses it", x.bed(0, 5), 16);
    }

    private static void theLastHour() {
        c.says("An HOUR (0 to 399; 400: all are over)");
        OwlsLent x = Checks.houseAt("bed a 0 0;owl o a 1;sound s mouse 0 0 9 15 15;sound t mouse 0 0 8 16 16;"
            + "shut 0 0;", 399);
        c.due("the hour of the day 15", x.now(1), 1);
        int knew = x.now(5);
        c.due("the last one goes", x.hours(60), 1);
        c.due("it counts", x.now(5), knew + 1);
        c.due("400", x.now(0), 400);
        c.due("the hour of the day 16", x.now(1), 2);
        c.due("no more", x.hours(1), 0);
        c.due("no more", x.drawn(1, 1), 0);
        c.due("nothing more is known", x.now(5), knew + 1);
        c.due("400 still", x.now(0), 400);
    }

    private static void newHouse() {
        c.says("A new HOUSE: HOUR 0, nothing hushed, nobody KNOWS or MISSES anything, no SENTENCE; nothing can be undone");
        String house = Checks.beds(3) + Checks.owls(3) + Checks.sounds(3);
        OwlsLent x = Checks.houseOf("house 7 7;" + house);
        x.lend(0, 0);
        x.hush(0);
        x.shout(0, 0, 9);
        x.hours(3);
        x.shout(0, 0, 9);
        Checks.put(x, "blind");
        x.sentence();
        Checks.put(x, house);
        c.due("house()", x.house(), 9);
        int[] nows = {0, 7, 0, 7, 0, 0, 0, 0};
        for (int what = 0; what < 8; what++) {
            c.due("now(" + what + ")", x.now(what), nows[what]);
        }
        for (int b = 0; b < 3; b++) {
            c.due("knows", x.bed(b, 4), 0);
            c.due("misses", x.bed(b, 5), 0);
        }
        c.due("no sentence", x.said(-1), -1);
        c.due("nothing can be undone", x.undo(), -1);
        c.due("nobody has shouted", x.shout(0, 0, 1), 0);
    }

    private static void newHouseLeavesNothing() {
        c.says("The tape is the HOUSE now: nothing of the old one is left");
        OwlsLent x = Checks.houseOf("house 9 2;bed a 0 0;bed b 1 0;owl o a 9;owl p b 9;bad o east;bad p west;deaf o bell;"
            + "deaf p road;wants a road;wants b bell;sound s bell 8 1 30 5 6;sound t road 7 0 29 7 8;shut 0 23;");
        Checks.put(x, "bed q 2 3;bed r 4 5;owl u q 1;owl v r 2;sound w mouse 5 5 1 0 0;");
        x.house();
        int[] counts = {2, 2, 1, 6, 6, 0};
        int[] beds = {4, 5, 1, -1, 0, 0};
        int[] owls = {1, 2, -1, 0, 0, 0};
        int[] sounds = {0, 5, 5, 1, 1, 0};
        for (int what = 0; what < 6; what++) {
            c.due("count(" + what + ")", x.count(what), counts[what]);
            c.due("bed(1, " + what + ")", x.bed(1, what), beds[what]);
            c.due("sound(0, " + what + ")", x.sound(0, what), sounds[what]);
        }
        x.shout(5, 5, 9);
        owls[5] = 1;
        for (int what = 0; what < 6; what++) {
            c.due("owl(1, " + what + ")", x.owl(1, what), owls[what]);
        }
        c.due("no second sound", x.sound(1, 0), -1);
        c.due("not shut", x.now(4), 0);
        x.note(1);
        c.due("the new names", x.byteAt(0), 'r');
        Checks.put(x, "hush t;");
        c.due("not the old ones", x.book(0), -7);
    }

    private static void theLastOnes() {
        c.says("numbered from 0 each: the sixth bed, the sixth owl, the eighth sound are as the others");
        String house = Checks.beds(6) + Checks.owls(6) + Checks.sounds(8) + "shut 12 12;";
        OwlsLent x = Checks.houseOf(house);
        x.note(5);
        String note = "bf of looks west";
        for (int i = 0; i < note.length(); i++) {
            c.due("byteAt(" + i + ") of '" + note + "'", x.byteAt(i), note.charAt(i));
        }
        Checks.put(x, "hush sh;hush sg;lend of bf;");
        c.due("the line that is wrong", x.book(1), 2);
        c.due("it is there", x.told(0), 1);
        c.due("the last two are hushed", x.now(2), 192);
        c.dueSaid(x, "by of", 5);
        // the six that are left are 4 loud at the sixth: it misses none of them, and looks at the shout
        x.shout(5, 0, 30);
        x.hours(1);
        x.lend(5, 5);
        c.due("the sixth knows", x.bed(5, 4), 1);
        c.due("the sixth misses", x.bed(5, 5), 0);
        x.image(0);
        x.shout(5, 0, 30);
        x.hush(5);
        x.hours(11);
        x.shout(5, 0, 30);
        x.hours(1);
        c.due("the sixth knows", x.bed(5, 4), 12);
        c.due("shut: the sixth misses the shout", x.bed(5, 5), 1);
        c.due("undo() of eight acts", x.undo(), 7);
        c.due("the sixth knows as before", x.bed(5, 4), 12);
        c.due("the sixth misses as before", x.bed(5, 5), 0);
        x.hours(1);
        c.due("and once more", x.bed(5, 5), 1);
        c.due("restore(0)", x.restore(0), true);
        c.due("the sixth knows as kept", x.bed(5, 4), 1);
        c.due("the sixth misses as kept", x.bed(5, 5), 0);
        x.note(5);
        c.due("its name is kept", x.byteAt(1), 'f');
        c.due("its owl's name is kept", x.byteAt(4), 'f');
        Checks.put(x, "let sh;hush sh;hush sh;");
        c.due("the eighth sound's name is kept", x.book(0), 2);
        x.hours(11);
        x.shout(5, 0, 30);
        x.hours(1);
        Checks.put(x, house);
        x.house();
        c.due("a new house: the sixth knows", x.bed(5, 4), 0);
        c.due("a new house: the sixth misses", x.bed(5, 5), 0);
    }

    private static void manyCalls() {
        c.says("An object is used for at most 512 calls after it has been made");
        OwlsLent fed = new OwlsLent();
        for (int call = 1; call <= 510; call += 2) {
            c.due("call " + call, fed.feed(0x73687574, 0x20312032, 0x3b202020, 0, 0), 20);
            c.due("call " + (call + 1), fed.end(call < 509 ? 0 : 9), true);
        }
        c.due("call 511", fed.house(), 1);
        c.due("call 512", fed.fault(), 0);
        OwlsLent done = new OwlsLent();
        for (int call = 1; call <= 508; call += 4) {
            c.due("call " + call, done.shout(5, 5, 30), 0);
            c.due("call " + (call + 1), done.hours(3), 3);
            int kept = Math.min(8, 2 * (call / 4) + 2);
            c.due("call " + (call + 2), done.undo(), kept - 1);
            c.due("call " + (call + 3), done.hours(1), 1);
        }
        c.due("call 509", done.now(0), 127);
        c.due("call 510", done.now(7), 127);
        c.due("call 511", done.drawn(60, 1), 60);
        c.due("call 512", done.now(0), 187);
    }
}

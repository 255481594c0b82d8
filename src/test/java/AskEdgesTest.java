/** Each edge that the document names of what is asked, by its words: promises 16 to 18, 20 to 34 and 36. */
public final class AskEdgesTest {
    private static final Checks c = new Checks("AskEdgesTest");

    public static void main(String[] args) {
        hearsNoSuch();
        hearsAll();
        wouldNoSuch();
        wouldElsewhere();
        whenNoSuch();
        whenFortyEight();
        whenFewerAreLeft();
        whenNothingElseIsDone();
        spotsLoud();
        spotsPairs();
        spotsOwlsAndSides();
        spotsAlone();
        spotsOrder();
        spotsOfTheLatest();
        nextOfLikeOnes();
        keenTriples();
        keenNumbers();
        keenOfTheLatest();
        bestOfNone();
        bestLeastBed();
        bestHours();
        bestOfTheLatest();
        codeNotAsTold();
        codePlaces();
        codeLeastSound();
        codeOfTheLatest();
        duelNoSuch();
        duelMoves();
        duelFirstMove();
        duelOfTheLatest();
        worthNoSuch();
        worthToTheEnd();
        worthFromFive();
        noteNoSuch();
        notesOfEachKind();
        byteOfTheLatest();
        oddsNoSuch();
        oddsOfSeeds();
        oddsAtTheEnd();
        newHouse();
        c.end();
    }

    private static void hearsNoSuch() {
        c.says("All that an OWL HEARS, as bits; NONE: no such one");
        for (int owls = 0; owls <= 6; owls++) {
            OwlsLent x = Checks.houseOf(Checks.beds(6) + Checks.owls(owls) + Checks.sounds(1));
            for (int o = 0; o < 8; o++) {
                c.due("hears(" + o + ") of " + owls, x.hears(o), o < owls ? 1 : -1);
            }
            for (int no : Checks.NO_SUCH) {
                c.due("hears(" + no + ")", x.hears(no), -1);
            }
        }
    }

    private static void hearsAll() {
        c.says("All that an OWL HEARS, as bits");
        OwlsLent x = Checks.houseOf(Checks.beds(2) + Checks.owls(2) + Checks.sounds(8) + "bad ob west;");
        c.due("eight", x.hears(0), 255);
        x.shout(0, 0, 1);
        c.due("and the shout", x.hears(0), 511);
        c.due("all on the bad side", x.hears(1), 0);
        x.hush(7);
        c.due("not the hushed one", x.hears(0), 383);
        x.hours(6);
        c.due("shut", x.hears(0), 0);
    }

    private static void wouldNoSuch() {
        c.says("NONE: nowhere, no such ones");
        for (int owls = 0; owls <= 6; owls++) {
            OwlsLent x = Checks.houseOf(Checks.beds(6) + Checks.owls(owls) + Checks.sounds(1));
            for (int o = 0; o < 8; o++) {
                for (int b = 0; b < 8; b++) {
                    int due = o >= owls || b >= 6 ? -1 : b == 0 ? 4 : 2;
                    c.due("would(" + o + ", " + b + ") of " + owls, x.would(o, b), due);
                }
            }
            for (int no : Checks.NO_SUCH) {
                c.due("would(" + no + ", 0)", x.would(no, 0), -1);
                c.due("would(0, " + no + ")", x.would(0, no), -1);
            }
        }
        OwlsLent x = Checks.houseOf(Checks.beds(1) + Checks.owls(1));
        c.due("nowhere", x.would(0, 0), -1);
        c.due("no such bed", x.would(0, 1), -1);
    }

    private static void wouldElsewhere() {
        c.says("The SIDE to which an OWL would LOOK at another BED (its own, too)");
        OwlsLent x = Checks.houseOf("bed a 0 0;bed b 5 0;bed d 2 2;owl o a 5;owl p b 1;bad o west;"
            + "sound s bell 2 0 7 0 23;");
        c.due("its own: 5 loud", x.would(0, 0), 0);
        c.due("another one's: its bad side", x.would(0, 1), -1);
        c.due("nobody's", x.would(0, 2), 3);
        c.due("p by its own", x.would(1, 1), 2);
        c.due("p by o's", x.would(1, 0), 0);
        x.lend(0, 2);
        c.due("the bed that it left", x.would(0, 0), 0);
        c.due("nothing is done by asking", x.owl(0, 0), 2);
        x.shout(0, 0, 5);
        c.due("the shout there", x.would(0, 0), 0);
        x.undo();
        x.shout(0, 0, 6);
        c.due("the louder shout there", x.would(0, 0), 4);
    }

    private static void whenNoSuch() {
        c.says("till an OWL LOOKS to a SIDE (0 to 4; 0: it does now); NONE: no such ones");
        int[][] cells = {{2, 1}, {1, 2}, {0, 1}, {1, 0}, {1, 1}};
        for (int side = 0; side < 5; side++) {
            OwlsLent x = Checks.houseOf("bed a 1 1;owl o a 1;sound s bell " + cells[side][0] + " " + cells[side][1]
                + " 9 0 23;");
            for (int asked = -1; asked < 7; asked++) {
                c.due("when(0, " + asked + ")", x.when(0, asked), asked == side ? 0 : -1);
            }
            c.due("when(1, " + side + ")", x.when(1, side), -1);
            for (int no : Checks.NO_SUCH) {
                c.due("when(" + no + ", " + side + ")", x.when(no, side), -1);
                c.due("when(0, " + no + ")", x.when(0, no), -1);
            }
        }
        OwlsLent asleep = Checks.houseOf("bed a 1 1;owl o a 1;");
        c.due("NONE is no side, though it looks nowhere", asleep.when(0, -1), -1);
    }

    private static void whenFortyEight() {
        c.says("How many HOURS go till an OWL LOOKS to a SIDE; 48 at most");
        // a sound at every hour of the day, asked from every hour of the day: 23 at most
        for (int hour = 0; hour < 24; hour++) {
            OwlsLent x = Checks.houseOf("bed a 1 1;owl o a 1;sound s bell 1 1 9 " + hour + " " + hour + ";shut "
                + (hour + 1) % 24 + " " + (hour + 1) % 24 + ";");
            for (int from = 0; from < 26; from++) {
                c.due("at " + hour + " from " + from, x.when(0, 4), (hour + 48 - from) % 24);
                x.hours(1);
            }
        }
        OwlsLent never = Checks.houseOf("bed a 1 1;owl o a 1;sound s bell 1 1 9 7 7;");
        c.due("shut at its hour", never.when(0, 4), -1);
        OwlsLent drowned = Checks.houseOf("bed a 1 1;owl o a 1;sound s bell 1 1 9 20 20;sound t bell 2 1 20 20 20;");
        c.due("at the louder one", drowned.when(0, 0), 20);
        c.due("never at the less loud one", drowned.when(0, 4), -1);
    }

    private static void whenFewerAreLeft() {
        c.says("NONE: longer, fewer are left");
        String house = "bed a 1 1;owl o a 1;sound s bell 1 1 9 10 10;shut 0 0;";
        // the hour of the day 10: 370 and 394 are the last ones
        c.due("from 371", Checks.houseAt(house, 371).when(0, 4), 23);
        c.due("from 394", Checks.houseAt(house, 394).when(0, 4), 0);
        c.due("from 395: 418", Checks.houseAt(house, 395).when(0, 4), -1);
        c.due("from 399", Checks.houseAt(house, 399).when(0, 4), -1);
        c.due("from 400", Checks.houseAt(house, 400).when(0, 4), -1);
        // the hour of the day 16 is hour 400: just as many are left; 17 would be one more
        String last = "bed a 1 1;owl o a 1;sound s bell 1 1 9 16 16;shut 0 0;";
        String over = "bed a 1 1;owl o a 1;sound s bell 1 1 9 17 17;shut 0 0;";
        for (int hour : new int[] {378, 390, 399}) {
            c.due("hour 400 from " + hour, Checks.houseAt(last, hour).when(0, 4), 400 - hour);
            c.due("hour 401 from " + hour, Checks.houseAt(over, hour).when(0, 4), -1);
        }
        c.due("at 400", Checks.houseAt(last, 400).when(0, 4), 0);
        c.due("at 400", Checks.houseAt(over, 400).when(0, 4), -1);
    }

    private static void whenNothingElseIsDone() {
        c.says("if nothing else is done");
        OwlsLent x = Checks.houseOf("bed a 1 1;owl o a 1;sound s bell 1 2 9 0 23;");
        x.shout(2, 1, 30);
        c.due("the shout now", x.when(0, 0), 0);
        c.due("it is over in the next hour", x.when(0, 1), 1);
        x.hush(0);
        c.due("hushed for good", x.when(0, 1), -1);
        c.due("nothing is done by asking", x.now(0), 0);
        x.hours(1);
        c.due("no shout any more", x.when(0, 0), -1);
        // on at this hour of the day alone, drowned by the shout today
        OwlsLent y = Checks.houseAt("bed a 1 1;owl o a 1;sound s bell 1 2 9 3 3;", 3);
        y.shout(2, 1, 30);
        c.due("a whole day", y.when(0, 1), 24);
        OwlsLent last = Checks.houseAt("bed a 1 1;owl o a 1;sound s bell 1 2 9 16 16;shut 0 0;", 376);
        last.shout(2, 1, 30);
        c.due("just as many are left", last.when(0, 1), 24);
        OwlsLent over = Checks.houseAt("bed a 1 1;owl o a 1;sound s bell 1 2 9 17 17;shut 0 0;", 377);
        over.shout(2, 1, 30);
        c.due("one fewer is left", over.when(0, 1), -1);
    }

    private static int spotsOf(OwlsLent x, int... bytes) {
        Checks.put(x, bytes);
        int cells = x.spots();
        c.due("the tape is empty then", x.count(5), 0);
        return cells;
    }

    private static void spotsLoud() {
        c.says("a byte: LOUD, 1 to 30; NONE: not as told");
        OwlsLent x = Checks.houseOf("house 9 9;bed a 0 0;owl o a 1;");
        for (int loud = 1; loud <= 30; loud++) {
            c.due("here, so loud: " + loud, spotsOf(x, loud, 0, 4), 1);
            int unheard = 0;
            for (int cell = 0; cell < 81; cell++) {
                unheard += loud - cell % 9 - cell / 9 < 1 ? 1 : 0;
            }
            c.due("not heard, so loud: " + loud, spotsOf(x, loud, 0, 255), unheard);
        }
        for (int wrong : new int[] {0, 31, 32, 128, 255}) {
            c.due("so loud: " + wrong, spotsOf(x, wrong, 0, 4), -1);
        }
    }

    private static void spotsPairs() {
        c.says("then pairs of bytes; 1 to 6 of them; NONE: not as told");
        OwlsLent x = Checks.houseOf("bed a 0 0;owl o a 1;");
        for (int bytes = 0; bytes <= 20; bytes++) {
            int[] tape = new int[bytes];
            for (int i = 0; i < bytes; i++) {
                tape[i] = i == 0 ? 9 : i % 2 == 1 ? 0 : 4;
            }
            boolean asTold = bytes % 2 == 1 && bytes >= 3 && bytes <= 13;
            c.due("spots() of " + bytes + " bytes", spotsOf(x, tape), asTold ? 1 : -1);
        }
        x.feed(0x09000400, 0x04000400, 0x04000400, 0x04000400, 0x04000400);
        c.due("20 bytes", x.spots(), -1);
        c.due("the tape is empty then", x.count(5), 0);
    }

    private static void spotsOwlsAndSides() {
        c.says("an OWL, a SIDE, 4, or 255 if it looked at nothing; NONE: not as told");
        for (int owls = 0; owls <= 6; owls++) {
            OwlsLent x = Checks.houseOf(Checks.beds(6) + Checks.owls(owls));
            for (int o = 0; o < 8; o++) {
                c.due("owl " + o + " of " + owls, spotsOf(x, 30, o, 4), o < owls ? 1 : -1);
                c.due("owl " + o + " of " + owls + " behind another", spotsOf(x, 30, 0, 4, o, 255), o < owls ? 0 : -1);
            }
            c.due("owl 255", spotsOf(x, 30, 255, 4), -1);
        }
        int[] cells = {3, 1, 3, 1, 1};
        for (int side = 0; side < 256; side++) {
            OwlsLent x = Checks.houseOf("house 3 3;bed a 1 1;owl o a 1;");
            int due = side < 5 ? cells[side] : side == 255 ? 0 : -1;
            c.due("side " + side, spotsOf(x, 30, 0, side), due);
            c.due("side " + side + " behind another", spotsOf(x, 30, 0, 4, 0, side), side == 4 ? 1 : due < 0 ? -1 : 0);
        }
    }

    private static void spotsAlone() {
        c.says("the one SOUND of that LOUD (a voice, nothing else being ON, no OWL being SHUT)");
        OwlsLent x = Checks.houseOf("house 2 2;bed a 0 0;bed b 1 1;owl o a 2;owl p b 1;deaf p voice;bad o south;"
            + "sound s mouse 0 0 30 0 23;sound t voice 1 1 30 0 23;shut 0 23;");
        x.shout(0, 0, 30);
        // of a voice of 3: o hears it at its cell and at the cell to the east; the cell to the south is on its bad side;
        // the cell at the corner is 1 loud
        c.due("here", spotsOf(x, 3, 0, 4), 1);
        c.due("east", spotsOf(x, 3, 0, 0), 1);
        c.due("that cell", x.spotAt(0), 1);
        c.due("on its bad side it looks nowhere", spotsOf(x, 3, 0, 1), 0);
        c.due("nothing", spotsOf(x, 3, 0, 255), 2);
        c.due("the south", x.spotAt(0), 9);
        c.due("the corner", x.spotAt(1), 10);
        c.due("deaf to voices", spotsOf(x, 30, 1, 255), 4);
        c.due("deaf to voices: never here", spotsOf(x, 30, 1, 4), 0);
        OwlsLent mouse = Checks.houseOf("bed a 0 0;owl o a 1;deaf o mouse;deaf o road;deaf o bell;");
        c.due("deaf to all others", spotsOf(mouse, 1, 0, 4), 1);
        c.says("so that each OWL LOOKS so at its BED");
        OwlsLent y = Checks.houseOf("house 3 3;bed a 0 0;bed b 2 2;owl o a 1;");
        c.due("by a: none to the west", spotsOf(y, 30, 0, 2), 0);
        y.lend(0, 1);
        c.due("by b: five", spotsOf(y, 30, 0, 2), 5);
        c.due("they are told once more", spotsOf(y, 30, 0, 2, 0, 2), 5);
        c.due("not two sides at once", spotsOf(y, 30, 0, 2, 0, 3), 0);
    }

    private static void spotsOrder() {
        c.says("The k-th of them (from 0; by Y, then by X): 9 by Y and X; NONE: none such");
        for (int wide = 2; wide <= 9; wide++) {
            int high = 11 - wide;
            OwlsLent x = Checks.houseOf("house " + wide + " " + high + ";bed a 0 0;owl o a 1;deaf o voice;");
            c.due("all cells", spotsOf(x, 9, 0, 255), wide * high);
            for (int k = 0; k < wide * high; k++) {
                c.due("spotAt(" + k + ")", x.spotAt(k), 9 * (k / wide) + k % wide);
            }
            c.due("spotAt behind the last", x.spotAt(wide * high), -1);
            for (int no : Checks.NO_SUCH) {
                c.due("spotAt(" + no + ")", x.spotAt(no), -1);
            }
        }
        OwlsLent all = Checks.houseOf("house 9 9;bed a 0 0;owl o a 1;deaf o voice;");
        c.due("81 cells", spotsOf(all, 9, 0, 255), 81);
        c.due("the last", all.spotAt(80), 80);
        c.due("none such", all.spotAt(81), -1);
        c.due("the one OWL, though it leaves all 81", all.next(), 0);
    }

    private static void spotsOfTheLatest() {
        c.says("by the latest spots() above 0; NONE ahead of any");
        OwlsLent x = Checks.houseOf("house 3 3;bed a 1 1;bed b 0 0;owl o a 1;owl p b 1;");
        c.due("spotAt(0) ahead of any", x.spotAt(0), -1);
        c.due("next() ahead of any", x.next(), -1);
        c.due("none", spotsOf(x, 1, 0, 0), 0);
        c.due("not as told", spotsOf(x, 0, 0, 0), -1);
        c.due("spotAt(0) ahead of any above 0", x.spotAt(0), -1);
        c.due("next() ahead of any above 0", x.next(), -1);
        c.due("the east", spotsOf(x, 30, 0, 0), 3);
        c.due("its first", x.spotAt(0), 2);
        // o leaves all three, p too: (2,2) is as far off by X as by Y
        c.due("of like ones the first", x.next(), 0);
        c.due("none", spotsOf(x, 1, 0, 0), 0);
        c.due("not as told", spotsOf(x, 31, 0, 0), -1);
        c.due("not as told", spotsOf(x), -1);
        c.due("the three still", x.spotAt(2), 20);
        c.due("no fourth", x.spotAt(3), -1);
        c.due("the north: one", spotsOf(x, 30, 0, 3), 1);
        c.due("it", x.spotAt(0), 1);
        c.due("the others are gone", x.spotAt(1), -1);
        c.says("NEXT by that (as it was then)");
        OwlsLent y = Checks.houseOf("house 3 3;bed a 0 0;bed b 1 1;bed d 2 2;owl o a 1;owl p b 1;");
        // by a voice of 1: o leaves eight at nothing, p eight too
        c.due("not by o", spotsOf(y, 1, 0, 255), 8);
        c.due("p leaves 7", y.next(), 1);
        y.lend(1, 2);
        y.hours(9);
        Checks.put(y, "house 2 2;");
        y.house();
        c.due("as it was then", y.next(), 1);
    }

    private static void nextOfLikeOnes() {
        c.says("the OWL by whose LOOK at most are left the least of these (of like ones the first)");
        OwlsLent x = Checks.houseOf("house 9 2;bed a 0 0;bed b 4 0;bed d 8 0;owl o a 1;owl p b 1;owl q d 1;");
        // 18 cells of a voice of 30: o: east 16, south 1, here 1; p: east 8, west 8, south 1, here 1; q as o
        c.due("all but here", spotsOf(x, 30, 0, 0), 16);
        c.due("p tells most of them apart", x.next(), 1);
        OwlsLent y = Checks.houseOf("house 9 2;bed a 0 0;bed d 8 0;bed e 0 1;owl o a 1;owl q d 1;owl r e 1;");
        c.due("16", spotsOf(y, 30, 0, 0), 16);
        // o leaves 16; q: here 1, west 14 (all but (8,0) and (8,1)), south 1; r: east 16
        c.due("q leaves 14", y.next(), 1);
        OwlsLent like = Checks.houseOf("house 9 2;bed d 8 0;bed f 8 1;bed a 0 0;owl q d 1;owl r f 1;owl o a 1;");
        c.due("16", spotsOf(like, 30, 2, 0), 16);
        c.due("of like ones the first", like.next(), 0);
        OwlsLent lone = Checks.houseOf("bed a 0 0;owl o a 1;deaf o voice;");
        c.due("all", spotsOf(lone, 30, 0, 255), 36);
        c.due("the only one, though it tells nothing", lone.next(), 0);
        // by Y as by X: the same house on its side
        OwlsLent tall = Checks.houseOf("house 2 9;bed a 0 0;bed b 0 4;bed d 0 8;owl o a 1;owl p b 1;owl q d 1;");
        c.due("all to the south", spotsOf(tall, 30, 0, 1), 15);
        // p: (1,4) and (1,3) and (1,5) are as far off by X as by Y or more
        c.due("p tells most of them apart", tall.next(), 1);
        for (int deep = 1; deep <= 8; deep++) {
            // a voice that is 1 loud at its cell: p by the bed at Y hears it here alone, o nowhere
            OwlsLent one = Checks.houseOf("house 2 9;bed a 0 0;bed b 1 " + deep + ";owl o a 20;owl p b 1;");
            c.due("all 18", spotsOf(one, 1, 0, 255), 18);
            c.due("p leaves one less", one.next(), 1);
            OwlsLent two = Checks.houseOf("house 2 9;bed a 0 0;bed b 1 " + deep + ";owl p b 1;owl o a 20;");
            c.due("here at " + deep, spotsOf(two, 2, 0, 4), 1);
            c.due("both leave it: the first", two.next(), 0);
            c.due("its cell", two.spotAt(0), 9 * deep + 1);
        }
        // an owl that is not on the tape counts, too; looking at nothing is a look
        OwlsLent deaf = Checks.houseOf("house 2 2;bed a 0 0;bed b 1 1;owl o a 1;owl p b 20;deaf o voice;");
        c.due("all four", spotsOf(deaf, 20, 0, 255), 4);
        c.due("p hears it here alone: it leaves three", deaf.next(), 1);
    }

    private static int keenOf(OwlsLent x, int... bytes) {
        Checks.put(x, bytes);
        int numbers = x.keen();
        c.due("the tape is empty then", x.count(5), 0);
        return numbers;
    }

    private static void keenTriples() {
        c.says("triples of bytes: LOUD, how far, 1 it looked or 0 it did not; 1 to 6 of them; NONE: not as told");
        for (int bytes = 0; bytes <= 25; bytes++) {
            OwlsLent x = new OwlsLent();
            int[] tape = new int[bytes];
            for (int i = 0; i < bytes; i++) {
                tape[i] = i % 3 == 0 ? 9 : i % 3 == 1 ? 4 : 1;
            }
            boolean asTold = bytes % 3 == 0 && bytes >= 3 && bytes <= 18;
            c.due("keen() of " + bytes + " bytes", keenOf(x, tape), asTold ? 5 : -1);
        }
        for (int looked = 0; looked < 256; looked++) {
            OwlsLent x = new OwlsLent();
            int due = looked == 0 ? 15 : looked == 1 ? 5 : -1;
            c.due("the third byte " + looked, keenOf(x, 9, 4, looked), due);
            c.due("the third byte " + looked + " of the sixth triple",
                keenOf(x, 30, 0, 1, 30, 0, 1, 30, 0, 1, 30, 0, 1, 30, 0, 1, 9, 4, looked), due);
            c.due("the third byte " + looked + " ahead of what leaves none",
                keenOf(x, 0, 0, 1, 9, 4, looked), looked < 2 ? 0 : -1);
        }
    }

    private static void keenNumbers() {
        c.says("numbers 1 to 20 from which on an OWL that is deaf to nothing may HEAR: how many numbers");
        for (int loud = 0; loud <= 40; loud++) {
            OwlsLent x = new OwlsLent();
            int heard = Math.min(20, loud);
            c.due("it looked at " + loud, keenOf(x, loud, 0, 1), heard);
            if (heard > 0) {
                c.due("the least", x.keenLeast(), 1);
                c.due("the greatest", x.keenMost(), heard);
            }
            c.due("it did not look at " + loud, keenOf(x, loud + 7, 7, 0), 20 - heard);
            if (heard < 20) {
                c.due("the least", x.keenLeast(), heard + 1);
                c.due("the greatest", x.keenMost(), 20);
            }
        }
        for (int far = 0; far < 256; far++) {
            OwlsLent x = new OwlsLent();
            c.due("it looked at 9, so far: " + far, keenOf(x, 9, far, 1), Math.max(0, 9 - far));
            c.due("it did not look at 9, so far: " + far, keenOf(x, 9, far, 0), 20 - Math.max(0, 9 - far));
        }
        for (int loud = 0; loud < 256; loud++) {
            OwlsLent x = new OwlsLent();
            c.due("any byte is a LOUD here: " + loud, keenOf(x, loud, 0, 1), Math.min(20, loud));
        }
        OwlsLent x = new OwlsLent();
        c.due("one is left", keenOf(x, 5, 0, 1, 4, 0, 0), 1);
        c.due("none is left", keenOf(x, 5, 0, 1, 5, 0, 0), 0);
        c.due("less than none", keenOf(x, 5, 0, 1, 15, 0, 0), 0);
    }

    private static void keenOfTheLatest() {
        c.says("by the latest keen() above 0; NONE ahead of any");
        OwlsLent x = new OwlsLent();
        c.due("keenLeast() ahead of any", x.keenLeast(), -1);
        c.due("keenMost() ahead of any", x.keenMost(), -1);
        keenOf(x, 0, 0, 1);
        keenOf(x, 9, 4, 2);
        keenOf(x);
        c.due("keenLeast() ahead of any above 0", x.keenLeast(), -1);
        c.due("keenMost() ahead of any above 0", x.keenMost(), -1);
        keenOf(x, 9, 0, 1, 3, 0, 0);
        int[][] none = {{}, {9}, {9, 0}, {9, 0, 2}, {9, 0, 1, 9}, {0, 0, 1}, {30, 0, 0}, {5, 0, 1, 5, 0, 0}};
        for (int[] bytes : none) {
            keenOf(x, bytes);
            c.due("keenLeast() of the latest above 0", x.keenLeast(), 4);
            c.due("keenMost() of the latest above 0", x.keenMost(), 9);
        }
        keenOf(x, 20, 0, 1);
        c.due("keenLeast()", x.keenLeast(), 1);
        c.due("keenMost()", x.keenMost(), 20);
    }

    private static void bestOfNone() {
        c.says("BEST: how many HOURS in all; The BED of an OWL; NONE: no such one, or ahead of any");
        OwlsLent x = new OwlsLent();
        for (int o = -1; o < 7; o++) {
            c.due("bestAt(" + o + ") ahead of any", x.bestAt(o), -1);
        }
        c.due("no owls", x.best(), 0);
        c.due("no such one", x.bestAt(0), -1);
        for (int owls = 1; owls <= 6; owls++) {
            OwlsLent y = Checks.houseOf(Checks.beds(6) + Checks.owls(owls));
            c.due("ahead of any", y.bestAt(0), -1);
            c.due("nothing wanted, nothing heard", y.best(), 0);
            for (int o = 0; o < 8; o++) {
                c.due("bestAt(" + o + ") of " + owls, y.bestAt(o), o < owls ? o : -1);
            }
            for (int no : Checks.NO_SUCH) {
                c.due("bestAt(" + no + ")", y.bestAt(no), -1);
            }
        }
    }

    private static void bestLeastBed() {
        c.says("all OWLS to unlike BEDS; of like ones the first: OWL by OWL the least BED");
        OwlsLent six = Checks.houseOf(Checks.beds(6) + "owl oa bf 1;owl ob be 1;owl oc bd 1;owl od bc 1;"
            + "owl oe bb 1;owl of ba 1;"
            + Checks.sounds(1) + "wants ba mouse;wants bb mouse;wants bc mouse;wants bd mouse;wants be mouse;wants bf mouse;"
            + "shut 1 23;");
        c.due("six owls, an hour each", six.best(), 6);
        for (int o = 0; o < 6; o++) {
            c.due("bestAt(" + o + ")", six.bestAt(o), o);
        }
        c.due("they sit as they sat", six.owl(0, 0), 5);
        // o hears s (9 loud at ba) up to bb, p everywhere: both by wanted beds is best
        OwlsLent x = Checks.houseOf(Checks.beds(4) + "owl o bd 8;owl p bc 1;" + Checks.sounds(1)
            + "wants ba mouse;wants bb mouse;wants bd mouse;shut 1 23;");
        c.due("two owls, an hour each", x.best(), 2);
        c.due("o by the least", x.bestAt(0), 0);
        c.due("p by the least that is left", x.bestAt(1), 1);
        OwlsLent y = Checks.houseOf(Checks.beds(3) + "owl p bc 1;owl o bb 9;" + Checks.sounds(1)
            + "wants ba mouse;wants bb mouse;shut 1 23;");
        c.due("p leaves ba to o, that hears it there alone", y.best(), 2);
        c.due("p", y.bestAt(0), 1);
        c.due("o", y.bestAt(1), 0);
        OwlsLent z = Checks.houseOf(Checks.beds(3) + Checks.owls(1) + Checks.sounds(1) + "wants bc mouse;"
            + "wants ba bell;shut 1 23;");
        c.due("by the one that wants it", z.best(), 1);
        c.due("far from its own", z.bestAt(0), 2);
        OwlsLent wantsNothing = Checks.houseOf(Checks.beds(2) + Checks.owls(2) + Checks.sounds(1));
        c.due("no bed wants a kind", wantsNothing.best(), 0);
    }

    private static void bestHours() {
        c.says("in the 24 HOURS from now on (SOUNDS as they are now, no SHOUT; HOURS above 399, too)");
        String house = Checks.beds(1) + Checks.owls(1) + "sound s voice 0 0 9 3 8;wants ba voice;";
        // on from 3 to 8, shut from 6: three hours of each day
        for (int hour : new int[] {0, 1, 3, 4, 5, 6, 9, 23, 24, 100, 376, 377, 399, 400}) {
            OwlsLent x = Checks.houseAt(house, hour);
            c.due("best() at " + hour, x.best(), 3);
            x.shout(0, 0, 30);
            c.due("no shout at " + hour, x.best(), 3);
            x.hush(0);
            c.due("hushed at " + hour, x.best(), 0);
            x.let(0);
            c.due("let at " + hour, x.best(), 3);
            c.due("the hour stays", x.now(0), hour);
        }
        OwlsLent all = Checks.houseOf(Checks.beds(1) + Checks.owls(1) + "sound s voice 0 0 9 0 23;wants ba voice;shut 5 5;");
        c.due("all hours but one", all.best(), 23);
        OwlsLent drowned = Checks.houseOf(Checks.beds(1) + Checks.owls(1) + "sound s voice 0 0 9 0 23;"
            + "sound t bell 0 0 10 0 3;"
            + "wants ba voice;shut 5 5;");
        c.due("it looks at the bell in four of them", drowned.best(), 19);
        OwlsLent none = Checks.houseOf(Checks.beds(1) + Checks.owls(1) + "wants ba voice;");
        none.shout(0, 0, 30);
        c.due("a shout alone is nothing", none.best(), 0);
    }

    private static void bestOfTheLatest() {
        c.says("The BED of an OWL by the latest best()");
        OwlsLent x = Checks.houseOf(Checks.beds(3) + Checks.owls(2) + "sound s mouse 0 0 9 0 0;"
            + "sound t bell 0 0 8 0 0;wants bc mouse;"
            + "wants bb bell;");
        c.due("best()", x.best(), 1);
        c.due("the first by ba", x.bestAt(0), 0);
        c.due("the second by bc", x.bestAt(1), 2);
        x.hush(0);
        c.due("as it was told", x.bestAt(1), 2);
        c.due("best() once more", x.best(), 1);
        c.due("the second by bb", x.bestAt(1), 1);
        Checks.put(x, Checks.beds(3) + Checks.owls(3));
        x.house();
        c.due("what was told stays", x.bestAt(1), 1);
        c.due("there was no third", x.bestAt(2), -1);
        x.best();
        c.due("there is one now", x.bestAt(2), 2);
        Checks.put(x, Checks.beds(1) + Checks.owls(1));
        x.house();
        x.best();
        c.due("one", x.bestAt(0), 0);
        c.due("no second any more", x.bestAt(1), -1);
    }

    private static int codeOf(OwlsLent x, int o, int... bytes) {
        Checks.put(x, bytes);
        int sides = x.code(o);
        c.due("the tape is empty then", x.count(5), 0);
        return sides;
    }

    private static void codeNotAsTold() {
        c.says("SIDES or 4; 1 to 8 of them; NONE: not as told, no such one");
        for (int n = 0; n <= 20; n++) {
            OwlsLent x = Checks.houseOf(Checks.beds(2) + Checks.owls(1) + Checks.sounds(1));
            int[] tape = new int[n];
            java.util.Arrays.fill(tape, 4);
            c.due("code() of " + n, codeOf(x, 0, tape), n >= 1 && n <= 8 ? n : -1);
        }
        for (int side = 0; side < 256; side++) {
            OwlsLent x = Checks.houseOf(Checks.beds(2) + Checks.owls(1) + Checks.sounds(1));
            int due = side == 4 ? 1 : side < 4 ? -2 : -1;
            c.due("code() of the byte " + side, codeOf(x, 0, side), due);
            c.due("code() of the byte " + side + " behind seven", codeOf(x, 0, 4, 4, 4, 4, 4, 4, 4, side),
                side == 4 ? 8 : side < 4 ? -9 : -1);
            c.due("code() of the byte " + side + " behind one for which there is none", codeOf(x, 0, 0, side),
                side <= 4 ? -2 : -1);
        }
        for (int owls = 0; owls <= 6; owls++) {
            OwlsLent y = Checks.houseOf(Checks.beds(6) + Checks.owls(owls) + Checks.sounds(1));
            for (int o = 0; o < 8; o++) {
                c.due("code(" + o + ") of " + owls, codeOf(y, o, o == 0 ? 4 : 2), o < owls ? 1 : -1);
            }
            for (int no : Checks.NO_SUCH) {
                c.due("code(" + no + ")", codeOf(y, no, 4), -1);
            }
        }
    }

    private static void codePlaces() {
        c.says("how many SIDES, or -2 less the place of the first for which there is none (from 0)");
        OwlsLent x = Checks.houseOf("bed a 1 1;owl o a 1;sound s bell 2 1 9 0 0;sound t bell 0 1 9 0 0;");
        for (int place = 0; place < 8; place++) {
            int[] tape = new int[8];
            java.util.Arrays.fill(tape, 0, place, 2);
            tape[place] = 1;
            c.due("none to the south at " + place, codeOf(x, 0, tape), -2 - place);
            if (place < 7) {
                tape[7] = 3;
                c.due("none to the north behind it", codeOf(x, 0, tape), -2 - place);
            }
        }
        OwlsLent none = Checks.houseOf("bed a 1 1;owl o a 1;");
        c.due("no sounds", codeOf(none, 0, 4), -2);
    }

    private static void codeLeastSound() {
        c.says("for each the least SOUND that, if it alone was ON now (no OWL SHUT), the OWL would LOOK at on that SIDE");
        OwlsLent x = Checks.houseOf("bed a 1 1;owl o a 5;bad o north;deaf o road;sound sa bell 2 1 5 0 0;"
            + "sound sb road 2 1 9 0 0;"
            + "sound sc bell 2 1 6 5 5;sound sd bell 2 1 7 0 0;sound se bell 1 0 9 0 0;sound sf bell 1 1 4 0 0;"
            + "sound sg bell 1 1 5 0 0;sound sh bell 1 5 9 0 0;shut 0 23;");
        c.due("east, south, here", codeOf(x, 0, 0, 1, 4), 3);
        c.due("sa is 4 loud, to sb it is deaf; sc is not on, and is shut then", x.codeAt(0), 2);
        c.due("sh is 5 loud", x.codeAt(1), 7);
        c.due("sf is 4 loud", x.codeAt(2), 6);
        c.due("none on its bad side", codeOf(x, 0, 3), -2);
        c.due("none to the west", codeOf(x, 0, 2), -2);
        x.hush(2);
        x.shout(0, 1, 30);
        c.due("hushed or not, a shout or not", codeOf(x, 0, 0), 1);
        c.due("sc still", x.codeAt(0), 2);
        c.due("a shout is no sound", codeOf(x, 0, 2), -2);
    }

    private static void codeOfTheLatest() {
        c.says("The k-th SOUND (from 0) by the latest code() above 0; NONE: none such, or ahead of any");
        OwlsLent x = Checks.houseOf("bed a 1 1;owl o a 1;sound s bell 2 1 9 0 0;sound t bell 0 1 9 0 0;");
        for (int k = -1; k < 9; k++) {
            c.due("codeAt(" + k + ") ahead of any", x.codeAt(k), -1);
        }
        codeOf(x, 0, 1);
        codeOf(x, 0);
        codeOf(x, 0, 2, 3);
        c.due("codeAt(0) ahead of any above 0", x.codeAt(0), -1);
        codeOf(x, 0, 0, 2, 2, 0, 2, 0, 0, 2);
        int[] sounds = {0, 1, 1, 0, 1, 0, 0, 1, -1, -1};
        for (int turn = 0; turn < 4; turn++) {
            for (int k = 0; k < sounds.length; k++) {
                c.due("codeAt(" + k + ")", x.codeAt(k), sounds[k]);
            }
            codeOf(x, turn == 0 ? 1 : 0, turn == 1 ? new int[] {2, 2, 1} : turn == 2 ? new int[] {5} : new int[0]);
        }
        for (int no : Checks.NO_SUCH) {
            c.due("codeAt(" + no + ")", x.codeAt(no), -1);
        }
        codeOf(x, 0, 2);
        c.due("the latest", x.codeAt(0), 1);
        c.due("none such", x.codeAt(1), -1);
    }

    private static void dueDuel(OwlsLent x, int side, int n, int due, int first) {
        c.due("duel(0, " + side + ", " + n + ")", x.duel(0, side, n), due);
        c.due("duelAt() of duel(0, " + side + ", " + n + ")", x.duelAt(), first);
    }

    private static void duelNoSuch() {
        c.says("DUEL for an OWL and a SIDE (0 to 4) in n (1 to 4) moves; NONE: no such ones");
        OwlsLent x = Checks.houseOf(Checks.beds(2) + Checks.owls(1) + Checks.sounds(1));
        for (int n = 1; n <= 4; n++) {
            for (int side = 0; side <= 4; side++) {
                c.due("duel(0, " + side + ", " + n + ")", x.duel(0, side, n), side == 4 && n == 1 ? 1 : 0);
            }
        }
        c.due("duel(1, 4, 1)", x.duel(1, 4, 1), -1);
        c.due("duel(0, 5, 1)", x.duel(0, 5, 1), -1);
        c.due("duel(0, -1, 1)", x.duel(0, -1, 1), -1);
        c.due("duel(0, 4, 0)", x.duel(0, 4, 0), -1);
        c.due("duel(0, 4, 5)", x.duel(0, 4, 5), -1);
        for (int no : Checks.NO_SUCH) {
            c.due("duel(" + no + ", 4, 1)", x.duel(no, 4, 1), -1);
            c.due("duel(0, " + no + ", 1)", x.duel(0, no, 1), -1);
            c.due("duel(0, 4, " + no + ")", x.duel(0, 4, no), -1);
        }
    }

    private static void duelMoves() {
        c.says("one side HUSHES a SOUND (not hushed) or none, then the other one, and so on");
        // like sounds here: the second side must hush them all
        for (int sounds = 1; sounds <= 4; sounds++) {
            OwlsLent x = Checks.houseOf(Checks.beds(1) + Checks.owls(1) + Checks.sounds(sounds));
            for (int n = 1; n <= 4; n++) {
                dueDuel(x, 4, n, sounds > n / 2 ? 1 : 0, -1);
            }
        }
        // one louder to the east ahead of one to the west
        OwlsLent x = Checks.houseOf("bed a 1 1;owl o a 1;sound s bell 2 1 9 0 23;sound t bell 0 1 8 0 23;");
        dueDuel(x, 0, 1, 1, -1);
        dueDuel(x, 0, 2, 0, -1);
        dueDuel(x, 2, 1, 1, 0);
        dueDuel(x, 2, 2, 0, -1);
        dueDuel(x, 2, 3, 0, -1);
        x.hush(0);
        dueDuel(x, 2, 1, 1, -1);
        dueDuel(x, 2, 2, 0, -1);
        dueDuel(x, 0, 1, 0, -1);
        c.due("nothing is hushed by it", x.now(2), 1);
        // a shout can't be hushed
        x.shout(1, 1, 30);
        dueDuel(x, 4, 4, 1, -1);
        dueDuel(x, 2, 1, 0, -1);
        c.says("whether the OWL LOOKS to that SIDE then (this HOUR)");
        OwlsLent later = Checks.houseOf("bed a 1 1;owl o a 1;sound s bell 2 1 9 1 1;");
        dueDuel(later, 0, 1, 0, -1);
        later.hours(1);
        dueDuel(later, 0, 1, 1, -1);
        OwlsLent shut = Checks.houseOf("bed a 1 1;owl o a 1;sound s bell 2 1 9 0 23;shut 0 0;");
        dueDuel(shut, 0, 1, 0, -1);
    }

    private static void duelFirstMove() {
        c.says("of like moves of the first side's first: none, then the least SOUND; NONE: none");
        OwlsLent x = Checks.houseOf("bed a 1 1;owl o a 1;sound s bell 1 0 9 5 5;sound t bell 2 1 9 0 23;"
            + "sound u bell 2 1 10 0 23;"
            + "sound v bell 0 1 8 0 23;");
        dueDuel(x, 0, 1, 1, -1);
        // to the west: both of the east must go
        dueDuel(x, 2, 1, 0, -1);
        dueDuel(x, 2, 2, 0, -1);
        dueDuel(x, 2, 3, 0, -1);
        x.hush(1);
        dueDuel(x, 2, 1, 1, 2);
        x.let(1);
        x.hush(2);
        dueDuel(x, 2, 1, 1, 1);
        // two to the west, one to the east: in three moves the first side may hush the one now, or later
        OwlsLent y = Checks.houseOf("bed a 1 1;owl o a 1;sound s bell 2 1 9 0 23;sound t bell 0 1 8 0 23;"
            + "sound u bell 0 1 8 0 23;");
        dueDuel(y, 2, 1, 1, 0);
        dueDuel(y, 2, 2, 1, 0);
        dueDuel(y, 2, 3, 1, -1);
        dueDuel(y, 2, 4, 0, -1);
        // lost anyhow: none is the first of like moves
        dueDuel(y, 3, 4, 0, -1);
    }

    private static void duelOfTheLatest() {
        c.says("the latest duel() that was not NONE; NONE: none, or ahead of any");
        OwlsLent x = Checks.houseOf("bed a 1 1;owl o a 1;sound s bell 2 1 9 0 23;sound t bell 0 1 8 0 23;");
        c.due("ahead of any", x.duelAt(), -1);
        x.duel(0, 5, 1);
        c.due("ahead of any that was not NONE", x.duelAt(), -1);
        x.hush(0);
        x.let(0);
        dueDuel(x, 2, 1, 1, 0);
        x.duel(1, 2, 1);
        x.duel(0, 5, 1);
        x.duel(0, 2, 0);
        x.duel(0, 2, 5);
        c.due("NONE leaves it", x.duelAt(), 0);
        dueDuel(x, 3, 1, 0, -1);
        dueDuel(x, 2, 1, 1, 0);
        dueDuel(x, 0, 1, 1, -1);
    }

    private static void worthNoSuch() {
        c.says("in the next n (1 to 60) HOURS; NONE: it has none, no such ones");
        OwlsLent x = Checks.houseOf(Checks.beds(6) + Checks.owls(5) + Checks.sounds(1) + "shut 12 11;");
        for (int b = -1; b < 8; b++) {
            c.due("worth(" + b + ", 1), all hours shut", x.worth(b, 1), b >= 0 && b < 5 ? 0 : -1);
        }
        OwlsLent y = Checks.houseOf(Checks.beds(6) + Checks.owls(5) + Checks.sounds(1) + "shut 23 23;");
        for (int n = 1; n <= 60; n++) {
            c.due("worth(0, " + n + ")", y.worth(0, n), n - (n >= 24 ? 1 : 0) - (n >= 48 ? 1 : 0));
        }
        for (int no : new int[] {0, 61, 62, 400}) {
            c.due("worth(0, " + no + ")", y.worth(0, no), -1);
            c.due("worth(5, " + no + ")", y.worth(5, no), -1);
        }
        for (int no : Checks.NO_SUCH) {
            c.due("worth(" + no + ", 1)", y.worth(no, 1), -1);
            c.due("worth(0, " + no + ")", y.worth(0, no), -1);
        }
        c.due("it has none", y.worth(5, 1), -1);
        y.lend(0, 5);
        c.due("it has one", y.worth(5, 1), 0);
        c.due("it has none any more", y.worth(0, 1), -1);
    }

    private static void worthToTheEnd() {
        c.says("(to HOUR 400)");
        String house = Checks.beds(1) + Checks.owls(1) + Checks.sounds(1) + "shut 0 0;";
        for (int hour : new int[] {340, 341, 398, 399, 400}) {
            OwlsLent x = Checks.houseAt(house, hour);
            int due = 0;
            for (int h = hour; h < 400; h++) {
                due += h % 24 == 0 ? 0 : 1;
            }
            c.due("worth(0, 60) at " + hour, x.worth(0, 60), due);
            c.due("worth(0, 1) at " + hour, x.worth(0, 1), hour == 400 ? 0 : 1);
            c.due("no hour goes", x.now(0), hour);
        }
    }

    private static void worthFromFive() {
        c.says("How many more a BED would MISS without its OWL than with it, if nothing else is done");
        for (int loud = 1; loud <= 8; loud++) {
            OwlsLent x = Checks.houseOf("bed a 0 0;owl o a 1;sound s bell 0 1 " + loud + " 0 23;");
            c.due("less 1, so loud: " + loud, x.worth(0, 6), loud >= 6 ? 6 : 0);
        }
        OwlsLent many = Checks.houseOf(Checks.beds(1) + Checks.owls(1) + Checks.sounds(8));
        c.due("one an hour, of eight", many.worth(0, 2), 2);
        many.shout(0, 0, 30);
        c.due("the shout in its hour", many.worth(0, 2), 2);
        OwlsLent lone = Checks.houseOf(Checks.beds(1) + Checks.owls(1));
        lone.shout(0, 0, 5);
        c.due("the shout alone", lone.worth(0, 60), 1);
        lone.undo();
        lone.shout(0, 0, 4);
        c.due("too low a shout", lone.worth(0, 60), 0);
        OwlsLent deaf = Checks.houseOf(Checks.beds(1) + Checks.owls(1) + Checks.sounds(1) + "deaf oa mouse;");
        c.due("it would miss as many with it", deaf.worth(0, 60), 0);
        OwlsLent hushed = Checks.houseOf(Checks.beds(1) + Checks.owls(1) + Checks.sounds(1));
        hushed.hush(0);
        c.due("hushed for good", hushed.worth(0, 60), 0);
    }

    private static void dueNote(OwlsLent x, int b, String note) {
        c.due("note(" + b + ") '" + note + "'", x.note(b), note.length());
        c.due("no byte ahead", x.byteAt(-1), -1);
        for (int i = 0; i < note.length(); i++) {
            c.due("byteAt(" + i + ") of '" + note + "'", x.byteAt(i), note.charAt(i));
        }
        for (int i = note.length(); i < 40; i++) {
            c.due("byteAt(" + i + ") behind '" + note + "'", x.byteAt(i), -1);
        }
    }

    private static void noteNoSuch() {
        c.says("NOTE of a BED: how many bytes; NONE: no such one");
        for (int beds = 0; beds <= 6; beds++) {
            OwlsLent x = Checks.houseOf(Checks.beds(beds));
            for (int b = 0; b < 8; b++) {
                c.due("note(" + b + ") of " + beds, x.note(b), b < beds ? 8 : -1);
            }
            for (int no : Checks.NO_SUCH) {
                c.due("note(" + no + ")", x.note(no), -1);
            }
        }
    }

    private static void notesOfEachKind() {
        c.says("its NAME, then ' alone', else a blank, the OWL's NAME and ' shut', ' looks ' and the SIDE's WORD, "
            + "' looks here' (4), or ' sleeps'");
        int[][] cells = {{2, 1}, {1, 2}, {0, 1}, {1, 0}, {1, 1}};
        for (int side = 0; side < 5; side++) {
            OwlsLent x = Checks.houseOf("bed abcdefg 1 1;bed z 5 5;owl tuvwxyz abcdefg 1;sound s bell "
                + cells[side][0] + " "
                + cells[side][1] + " 9 0 23;");
            dueNote(x, 0, "abcdefg tuvwxyz looks " + (side < 4 ? Checks.SIDES[side] : "here"));
            dueNote(x, 1, "z alone");
            x.hush(0);
            dueNote(x, 0, "abcdefg tuvwxyz sleeps");
            x.lend(0, 1);
            dueNote(x, 0, "abcdefg alone");
            dueNote(x, 1, "z tuvwxyz sleeps");
            x.let(0);
            x.hours(6);
            dueNote(x, 1, "z tuvwxyz shut");
            dueNote(x, 0, "abcdefg alone");
        }
        OwlsLent short1 = Checks.houseOf("bed a 0 0;owl b a 1;shut 0 0;");
        dueNote(short1, 0, "a b shut");
        short1.hours(1);
        dueNote(short1, 0, "a b sleeps");
        short1.shout(0, 0, 1);
        dueNote(short1, 0, "a b looks here");
    }

    private static void byteOfTheLatest() {
        c.says("Byte i of the latest NOTE; NONE: none such");
        OwlsLent x = Checks.houseOf("bed abcdefg 0 0;bed z 1 0;owl tuvwxyz abcdefg 1;sound s bell 0 1 9 0 23;");
        for (int i = -1; i < 40; i++) {
            c.due("byteAt(" + i + ") ahead of any", x.byteAt(i), -1);
        }
        dueNote(x, 0, "abcdefg tuvwxyz looks south");
        for (int no : Checks.NO_SUCH) {
            c.due("byteAt(" + no + ")", x.byteAt(no), -1);
        }
        c.due("no such bed", x.note(2), -1);
        c.due("the latest note stays", x.byteAt(26), 'h');
        dueNote(x, 1, "z alone");
        Checks.put(x, "bed q 0 0;");
        x.house();
        c.due("behind a new house, too", x.byteAt(0), 'z');
        x.note(1);
        c.due("no such bed there", x.byteAt(6), 'e');
        dueNote(x, 0, "q alone");
    }

    private static void oddsNoSuch() {
        c.says("Of n (1 to 30) seeds; NONE: no such ones");
        for (int beds = 0; beds <= 6; beds++) {
            OwlsLent x = Checks.houseOf(Checks.beds(beds));
            x.shout(0, 0, 1);
            for (int b = 0; b < 8; b++) {
                int odds = x.odds(b, 1, 7);
                c.due("odds(" + b + ", 1, 7) of " + beds, b < beds ? odds >= 0 && odds <= 1 : odds == -1, true);
            }
            for (int no : Checks.NO_SUCH) {
                c.due("odds(" + no + ", 1, 7)", x.odds(no, 1, 7), -1);
                c.due("odds(0, " + no + ", 7)", x.odds(0, no, 7), -1);
            }
            c.due("odds(0, 0, 7)", x.odds(0, 0, 7), -1);
            c.due("odds(0, 31, 7)", x.odds(0, 31, 7), -1);
        }
    }

    private static void oddsOfSeeds() {
        c.says("seeds x, x and 1, .. by how many a BED MISSES nothing in 12 HOURS DRAWN from now on");
        for (int seed : new int[] {0, 5, -9, Checks.MAX, Checks.MAX - 3, Checks.MIN}) {
            OwlsLent x = Checks.houseOf("house 9 9;bed a 0 0;bed b 8 8;owl o a 1;sound s mouse 0 0 5 0 23;");
            x.hours(20);
            x.hush(0);
            int missed = x.bed(1, 5);
            int due = 0;
            for (int n = 1; n <= 30; n++) {
                x.drawn(12, seed + n - 1);
                due += x.bed(1, 5) == missed ? 1 : 0;
                x.undo();
                c.due("odds(1, " + n + ", " + seed + ")", x.odds(1, n, seed), due);
            }
            c.due("all stays: the hour", x.now(0), 20);
            c.due("all stays: hushed", x.now(2), 1);
            c.due("all stays: missed", x.bed(1, 5), missed);
            c.due("all stays: what can be undone", x.undo(), 1);
        }
    }

    private static void oddsAtTheEnd() {
        c.says("in 12 HOURS DRAWN from now on (400: all are over)");
        String house = "bed a 0 0;sound s mouse 0 0 5 0 23;";
        for (int hour : new int[] {388, 389, 399, 400}) {
            OwlsLent x = Checks.houseAt(house, hour);
            x.hush(0);
            int missed = x.bed(0, 5);
            int due = 0;
            for (int i = 0; i < 30; i++) {
                int went = x.drawn(12, i);
                c.due("hours that went", went, Math.min(12, 400 - hour));
                due += x.bed(0, 5) == missed ? 1 : 0;
                if (went > 0) {
                    x.undo();
                }
            }
            c.due("odds(0, 30, 0) at " + hour, x.odds(0, 30, 0), due);
        }
        c.due("none is left to miss anything", Checks.houseAt(house, 400).odds(0, 30, 1), 30);
    }

    private static void newHouse() {
        c.says("A new HOUSE: what other calls told last stays");
        OwlsLent x = Checks.houseOf("house 3 3;bed a 1 1;bed b 0 0;owl o a 1;owl p b 1;sound s bell 2 1 9 0 23;"
            + "sound t bell 0 1 8 0 23;");
        spotsOf(x, 30, 0, 2);
        keenOf(x, 9, 0, 1, 3, 0, 0);
        x.best();
        codeOf(x, 0, 2, 0);
        x.duel(0, 2, 1);
        x.note(0);
        Checks.put(x, "hour 1;let s;");
        x.book(0);
        for (String house : new String[] {"@", "", "bed z 0 0;owl y z 1;sound w mouse 0 0 9 0 23;"}) {
            Checks.put(x, house);
            x.house();
            c.due("spotAt(0)", x.spotAt(0), 0);
            c.due("spotAt(2)", x.spotAt(2), 18);
            // o leaves all three (west); p by (0, 0): here 1, south 2
            c.due("next()", x.next(), 1);
            c.due("keenLeast()", x.keenLeast(), 4);
            c.due("keenMost()", x.keenMost(), 9);
            c.due("bestAt(1)", x.bestAt(1), 1);
            c.due("codeAt(0)", x.codeAt(0), 1);
            c.due("codeAt(1)", x.codeAt(1), 0);
            c.due("duelAt()", x.duelAt(), 0);
            c.due("byteAt(0)", x.byteAt(0), 'a');
            c.due("told(0)", x.told(0), 21);
            c.due("told(1)", x.told(1), 1);
            c.due("told(2)", x.told(2), 1);
        }
    }
}

/** Each edge that the document names of TOKENS and of the text of a HOUSE, by its words; with promises 4 and 5. */
public final class HouseEdgesTest {
    private static final String BEDS = "bed a 0 0;bed b 1 0;";
    private static final String OWLS = BEDS + "owl o a 1;owl p b 1;";
    private static final String SOUND = "sound s mouse 0 0 1 0 0;";
    private static final Checks c = new Checks("HouseEdgesTest");

    public static void main(String[] args) {
        blanks();
        words();
        numbers();
        runsOfLettersAndDigits();
        signs();
        anyByte();
        lines();
        houseLine();
        bedLine();
        owlLine();
        badLine();
        deafLine();
        soundLine();
        wantsLine();
        shutLine();
        names();
        namesToldTwice();
        asManyAsThereMayBe();
        firstAlongTheText();
        theEnd();
        mostBytes();
        tokensAheadOfTheMost();
        whatAFaultLeaves();
        c.end();
    }

    /** A mark | stands where the fault is due; the house that was ahead of it stays. */
    private static void fault(int kind, String marked) {
        int place = marked.indexOf('|');
        String text = marked.substring(0, place) + marked.substring(place + 1);
        OwlsLent x = Checks.houseOf("house 2 3;");
        Checks.put(x, text);
        c.due("house() of '" + marked + "'", x.house(), -1 - place);
        c.due("fault() of '" + marked + "'", x.fault(), kind);
        c.due("the tape behind '" + marked + "'", x.count(5), 0);
        c.due("the house behind '" + marked + "'", x.count(3), 2);
    }

    private static OwlsLent stands(int lines, String text) {
        OwlsLent x = new OwlsLent();
        Checks.put(x, text);
        c.due("house() of '" + text + "'", x.house(), lines);
        c.due("fault() of '" + text + "'", x.fault(), 0);
        c.due("the tape behind '" + text + "'", x.count(5), 0);
        return x;
    }

    private static void blanks() {
        c.says("with blanks (32, 10) between them or not");
        stands(1, "bed a 0 0;");
        stands(1, "bed\na\n0\n0\n;\n");
        stands(1, " \n bed \n a \n 0 \n 0 \n ; \n ");
        stands(2, "bed a 0 0;bed b 1 0;");
        stands(0, " ");
        stands(0, "\n");
        fault(1, "bed|\ta 0 0;");
        fault(1, "bed a 0 0;|\r\n");
        fault(1, "bed a 0 0;|" + (char) 11);
        fault(1, "bed a 0 0;|" + (char) 0);
        fault(1, "bed a 0 0;|" + (char) 160);
        fault(1, "bed a|,0 0;");
    }

    private static void words() {
        c.says("WORDS: small letters, 1 to 7");
        stands(1, "bed a 0 0;");
        stands(1, "bed z 0 0;");
        stands(1, "bed abcdefg 0 0;");
        stands(1, "bed zzzzzzz 0 0;");
        fault(1, "bed |abcdefgh 0 0;");
        fault(1, "bed |" + "z".repeat(60) + " 0 0;");
        fault(1, "|houses 4 4;");
        fault(1, "bed |A 0 0;");
        fault(1, "bed a|B 0 0;");
        fault(1, "bed |" + (char) 96 + " 0 0;");
        fault(1, "bed |{ 0 0;");
        fault(1, "bed |" + (char) 233 + " 0 0;");
        // words of seven letters are told apart by each of them
        stands(2, "bed abcdefg 0 0;bed bbcdefg 1 0;");
        stands(2, "bed abcdefg 0 0;bed abcdefh 1 0;");
        stands(2, "bed abcdefg 0 0;bed abcdef 1 0;");
        stands(2, "bed a 0 0;bed aa 1 0;");
        fault(3, "bed abcdefg 0 0;bed |abcdefg 1 0;");
    }

    private static void numbers() {
        c.says("NUMBERS: 1 to 3 digits");
        c.due("x of one digit", stands(1, "bed a 5 4;").bed(0, 0), 5);
        c.due("x of two digits", stands(1, "bed a 05 04;").bed(0, 0), 5);
        c.due("y of three digits", stands(1, "bed a 005 004;").bed(0, 1), 4);
        c.due("x of three digits of 0", stands(1, "bed a 000 000;").bed(0, 0), 0);
        fault(1, "bed a |0005 5;");
        fault(1, "bed a |1000 5;");
        fault(2, "bed a |999 5;");
        fault(1, "bed a |4294967296 5;");
        fault(1, "bed a |18446744073709551616 5;");
        fault(1, "bed a |/ 5;");
        fault(1, "bed a |: 5;");
        fault(1, "bed a |-1 5;");
        fault(1, "bed a |+1 5;");
        fault(1, "bed a 1|.5 5;");
    }

    private static void runsOfLettersAndDigits() {
        c.says("A WORD, NUMBER goes on as long as small letters and digits do; what is not as told is no TOKEN");
        fault(1, "bed |a0 0;");
        fault(1, "bed |a1 0 0;");
        fault(1, "bed |1a 0 0;");
        fault(1, "bed a |0a 0;");
        fault(1, "bed a |a0 0;");
        fault(1, "bed a 0 |0bed b 1 1;");
        fault(1, "|bed1 a 0 0;");
        fault(1, "|1bed a 0 0;");
        fault(1, "|1house 4 4;");
        fault(1, "shut |1a2 3;");
    }

    private static void signs() {
        c.says("; < = > ( ) .");
        for (String sign : new String[] {";", "<", "=", ">", "(", ")", "."}) {
            fault(1, "|" + sign);
            fault(1, "bed |" + sign + " 0 0;");
            fault(1, "bed a |" + sign + " 0;");
            fault(1, BEDS + "|" + sign);
            fault(1, OWLS + "bad o |" + sign);
        }
        for (String sign : new String[] {"<", "=", ">", "(", ")", "."}) {
            fault(1, "bed a 0 0|" + sign);
        }
        for (String sign : new String[] {",", ":", "!", "?", "-", "[", "]"}) {
            fault(1, "bed a 0 0|" + sign);
        }
    }

    private static void anyByte() {
        c.says("small letters; digits; what is not as told is no TOKEN");
        for (int b = 0; b < 256; b++) {
            char sign = (char) b;
            boolean blank = b == 32 || b == 10;
            boolean letter = b >= 97 && b <= 122;
            boolean digit = b >= 48 && b <= 57;
            if (blank) {
                stands(1, "bed a 0 0;" + sign);
                stands(1, "bed a" + sign + "0 0;");
                fault(1, "bed " + sign + " |0 0;");
                fault(1, "bed a " + sign + " 0|;");
            } else if (letter) {
                stands(1, "bed " + sign + " 0 0;");
                fault(1, "bed a |" + sign + " 0;");
                fault(1, "bed |a" + sign + "0 0;");
            } else if (digit) {
                fault(1, "bed |" + sign + " 0 0;");
                fault(1, "bed |a" + sign + "0 0;");
                if (b < 54) {
                    stands(1, "bed a " + sign + " 0;");
                } else {
                    fault(2, "bed a |" + sign + " 0;");
                }
            } else {
                fault(1, "bed a 0 0;|" + sign);
                fault(1, "bed |" + sign + " 0 0;");
                fault(1, "bed a |" + sign + " 0;");
                fault(1, "bed a|" + sign + "0 0;");
            }
        }
    }

    private static void lines() {
        c.says("{ LINE ; }; how many LINES");
        OwlsLent x = stands(0, "");
        c.due("a house of no lines is 6 wide", x.count(3), 6);
        stands(1, "house 4 4;");
        stands(3, "house 4 4;shut 1 2;bed a 0 0;");
        fault(1, "house 4 4|");
        fault(1, "house 4 4;|;");
        fault(1, "|;house 4 4;");
        fault(1, "house 4 4 |4;");
        fault(1, "house 4 4 |bed a 0 0;");
        fault(1, "|4;");
        fault(1, "|a;");
        fault(1, "|mouse;");
        fault(1, "|east;");
        fault(1, "|lend o b;");
        fault(1, "|hush s;");
        fault(1, "|hour 1;");
        fault(1, "|not blind");
    }

    private static void houseLine() {
        c.says("'house' WIDE HIGH (2 to 9 each");
        for (int wide = 2; wide <= 9; wide++) {
            for (int high = 2; high <= 9; high++) {
                OwlsLent x = stands(1, "house " + wide + " " + high + ";");
                c.due("wide", x.count(3), wide);
                c.due("high", x.count(4), high);
            }
        }
        for (int wrong : new int[] {0, 1, 10, 99, 100, 256, 258, 999}) {
            fault(2, "house |" + wrong + " 4;");
            fault(2, "house 4 |" + wrong + ";");
        }
        fault(1, "house |;");
        fault(1, "house 4|;");
        fault(1, "house |a 4;");
        c.says("once, ahead of all beds and sounds");
        fault(3, "house 4 4;|house 4 4;");
        fault(3, "house 4 4;shut 1 2;|house 4 4;");
        fault(3, "bed a 0 0;|house 4 4;");
        fault(3, "sound s mouse 0 0 1 0 0;|house 4 4;");
        fault(3, OWLS + "|house 4 4;");
        fault(3, "house 4 4;bed a 0 0;|house");
        stands(2, "shut 1 2;house 4 4;");
        stands(2, "house 4 4;bed a 3 3;");
        c.says("6 by 6 without");
        OwlsLent x = Checks.houseOf("house 9 2;");
        Checks.put(x, "bed a 5 5;");
        c.due("house()", x.house(), 1);
        c.due("wide", x.count(3), 6);
        c.due("high", x.count(4), 6);
        fault(2, "bed a |6 0;");
        fault(2, "bed a 0 |6;");
    }

    private static void bedLine() {
        c.says("X 0 to WIDE less 1, Y 0 to HIGH less 1");
        for (int wide = 2; wide <= 9; wide++) {
            int high = 11 - wide;
            String house = "house " + wide + " " + high + ";";
            OwlsLent x = stands(3, house + "bed a 0 0;bed b " + (wide - 1) + " " + (high - 1) + ";");
            c.due("X of a", x.bed(0, 0), 0);
            c.due("Y of a", x.bed(0, 1), 0);
            c.due("X of b", x.bed(1, 0), wide - 1);
            c.due("Y of b", x.bed(1, 1), high - 1);
            fault(2, house + "bed a |" + wide + " 0;");
            fault(2, house + "bed a 0 |" + high + ";");
        }
        c.says("one in a cell at most; a BED in a cell told again (at its Y)");
        fault(3, "bed a 1 2;bed b 1 |2;");
        fault(3, "bed a 1 2;bed b 1 |02");
        fault(3, "bed a 1 2;bed b 2 2;bed d 2 1;bed e 1 |2;");
        fault(3, "bed a 1 2;bed b 2 2;bed d 2 1;bed e 2 |1;");
        stands(3, "bed a 1 2;bed b 2 1;bed d 2 2;");
        stands(2, "bed a 1 1;bed b 1 2;");
        stands(2, "sound s mouse 1 1 1 0 0;bed a 1 1;");
        fault(1, "bed |;");
        fault(1, "bed a|;");
        fault(1, "bed a 1|;");
    }

    private static void owlLine() {
        c.says("'owl' NAME BED N (it HEARS from N on: 1 to 20");
        for (int n = 1; n <= 20; n++) {
            c.due("from " + n + " on", stands(2, "bed a 0 0;owl o a " + n + ";").owl(0, 1), n);
        }
        for (int wrong : new int[] {0, 21, 30, 100, 257, 999}) {
            fault(2, "bed a 0 0;owl o a |" + wrong + ";");
        }
        fault(1, "bed a 0 0;owl o a|;");
        c.says("a BED has one OWL at most; a BED that has an OWL (at it)");
        fault(3, "bed a 0 0;owl o a 1;owl p |a 1;");
        fault(3, "bed a 0 0;owl o a 1;owl p |a 99;");
        fault(3, "bed a 0 0;owl o a 1;owl p |a");
        fault(3, OWLS + "owl q |a 1;");
        fault(3, OWLS + "owl q |b 1;");
        stands(4, OWLS);
        c.says("a NAME not told, or of another sort");
        fault(3, "owl o |a 1;");
        fault(3, BEDS + "owl o |o 1;");
        fault(3, OWLS + "owl q |o 1;");
        fault(3, SOUND + "owl o |s 1;");
        fault(1, BEDS + "owl o |east 1;");
        fault(1, BEDS + "owl o |1 1;");
        fault(1, BEDS + "owl o|;");
        fault(1, BEDS + "owl|;");
    }

    private static void badLine() {
        c.says("'bad' OWL SIDE (each OWL once); SIDE: 'east', 'south', 'west', 'north'; numbered from 0");
        for (int side = 0; side < 4; side++) {
            OwlsLent x = stands(5, OWLS + "bad p " + Checks.SIDES[side] + ";");
            c.due("the bad side of p", x.owl(1, 2), side);
            c.due("o has none", x.owl(0, 2), -1);
        }
        fault(3, OWLS + "bad o east;bad |o east;");
        fault(3, OWLS + "bad o east;bad |o west;");
        fault(3, OWLS + "bad o east;bad |o mouse;");
        fault(3, OWLS + "bad o east;bad p east;bad |p east;");
        stands(6, OWLS + "bad o east;bad p east;");
        fault(3, OWLS + "bad |q east;");
        fault(3, OWLS + "bad |a east;");
        fault(3, SOUND + "bad |s east;");
        fault(1, OWLS + "bad |bad east;");
        fault(1, OWLS + "bad |1 east;");
        fault(1, OWLS + "bad o |mouse;");
        fault(1, OWLS + "bad o |shut;");
        fault(1, OWLS + "bad o |lend;");
        fault(1, OWLS + "bad o |q;");
        fault(1, OWLS + "bad o |4;");
        fault(1, OWLS + "bad o|;");
        fault(1, OWLS + "bad o east |west;");
    }

    private static void deafLine() {
        c.says("'deaf' OWL KIND (each two once); 'deaf' of two told again (at the KIND)");
        for (int kind = 0; kind < 4; kind++) {
            OwlsLent x = stands(5, OWLS + "deaf p " + Checks.KINDS[kind] + ";");
            c.due("p is deaf to it", x.owl(1, 3), 1 << kind);
            c.due("o is not", x.owl(0, 3), 0);
            fault(3, OWLS + "deaf p " + Checks.KINDS[kind] + ";deaf p |" + Checks.KINDS[kind] + ";");
            stands(6, OWLS + "deaf p " + Checks.KINDS[kind] + ";deaf o " + Checks.KINDS[kind] + ";");
        }
        OwlsLent x = stands(8, OWLS + "deaf p bell;deaf p mouse;deaf p voice;deaf p road;");
        c.due("deaf to all", x.owl(1, 3), 15);
        fault(3, OWLS + "deaf p bell;deaf p mouse;deaf p |bell");
        fault(3, OWLS + "deaf |q mouse;");
        fault(3, OWLS + "deaf |b mouse;");
        fault(1, OWLS + "deaf o |east;");
        fault(1, OWLS + "deaf o |wants;");
        fault(1, OWLS + "deaf o|;");
    }

    private static void soundLine() {
        c.says("'sound' NAME KIND X Y LOUD FROM TILL (1 to 30; 0 to 23 each)");
        for (int kind = 0; kind < 4; kind++) {
            c.due("kind", stands(1, "sound s " + Checks.KINDS[kind] + " 0 0 1 0 0;").sound(0, 0), kind);
        }
        fault(1, "sound s |shut 0 0 1 0 0;");
        fault(1, "sound s |east 0 0 1 0 0;");
        fault(1, "sound s |cat 0 0 1 0 0;");
        fault(1, "sound s |0 0 1 0 0;");
        OwlsLent x = stands(2, "house 7 3;sound s bell 6 2 30 23 23;");
        int[] due = {3, 6, 2, 30, 0, 0};
        for (int what = 0; what < 6; what++) {
            c.due("sound(0, " + what + ")", x.sound(0, what), due[what]);
        }
        fault(2, "house 7 3;sound s bell |7 2 1 0 0;");
        fault(2, "house 7 3;sound s bell 6 |3 1 0 0;");
        for (int loud = 1; loud <= 30; loud++) {
            c.due("LOUD", stands(1, "sound s road 0 0 " + loud + " 0 0;").sound(0, 3), loud);
        }
        for (int wrong : new int[] {0, 31, 100, 999}) {
            fault(2, "sound s road 0 0 |" + wrong + " 0 0;");
        }
        for (int hour = 0; hour <= 23; hour++) {
            OwlsLent y = stands(1, "sound s road 0 0 1 " + hour + " " + hour + ";");
            c.due("on at 0", y.sound(0, 4), hour == 0 ? 1 : 0);
        }
        for (int wrong : new int[] {24, 25, 99, 100, 999}) {
            fault(2, "sound s road 0 0 1 |" + wrong + " 0;");
            fault(2, "sound s road 0 0 1 0 |" + wrong + ";");
        }
        fault(1, "sound|;");
        fault(1, "sound s|;");
        fault(1, "sound s road|;");
        fault(1, "sound s road 0|;");
        fault(1, "sound s road 0 0|;");
        fault(1, "sound s road 0 0 1|;");
        fault(1, "sound s road 0 0 1 0|;");
        fault(1, "sound s road 0 0 1 0 0 |0;");
        // sounds may be in one cell, and in a bed's
        stands(3, "bed a 0 0;sound s mouse 0 0 1 0 0;sound t mouse 0 0 1 0 0;");
    }

    private static void wantsLine() {
        c.says("'wants' BED KIND (each BED once)");
        for (int kind = 0; kind < 4; kind++) {
            OwlsLent x = stands(3, BEDS + "wants b " + Checks.KINDS[kind] + ";");
            c.due("b wants it", x.bed(1, 3), kind);
            c.due("a wants nothing", x.bed(0, 3), -1);
        }
        fault(3, BEDS + "wants a bell;wants |a bell;");
        fault(3, BEDS + "wants a bell;wants |a road;");
        fault(3, BEDS + "wants a bell;wants |a east;");
        fault(3, BEDS + "wants a bell;wants b bell;wants |b bell;");
        stands(4, BEDS + "wants a bell;wants b bell;");
        fault(3, "wants |a bell;");
        fault(3, OWLS + "wants |o bell;");
        fault(3, SOUND + "wants |s bell;");
        fault(1, BEDS + "wants |bell bell;");
        fault(1, BEDS + "wants a |east;");
        fault(1, BEDS + "wants a|;");
    }

    private static void shutLine() {
        c.says("'shut' FROM TILL (once; 6 17 without)");
        for (int hour = 0; hour <= 23; hour++) {
            c.due("shut at 0", stands(1, "shut 0 " + hour + ";").now(4), 1);
            c.due("shut at 0 from " + hour, stands(1, "shut " + hour + " 23;").now(4), hour == 0 ? 1 : 0);
        }
        for (int wrong : new int[] {24, 25, 99, 100, 999}) {
            fault(2, "shut |" + wrong + " 0;");
            fault(2, "shut 0 |" + wrong + ";");
        }
        fault(3, "shut 1 2;|shut 1 2;");
        fault(3, "shut 1 2;house 4 4;|shut");
        fault(3, "shut 6 17;|shut 6 17;");
        fault(1, "shut|;");
        fault(1, "shut 1|;");
        for (String text : new String[] {"", "house 4 4;", "shut 6 17;"}) {
            OwlsLent x = Checks.houseOf("shut 0 23;");
            Checks.put(x, text);
            x.house();
            for (int hour = 0; hour < 48; hour++) {
                int due = hour % 24 >= 6 && hour % 24 <= 17 ? 1 : 0;
                c.due("shut at " + hour + " of '" + text + "'", x.now(4), due);
                x.hours(1);
            }
        }
    }

    private static void names() {
        c.says("NAME: a WORD, none of those told here, in a BOOK or a SENTENCE");
        for (String word : Checks.RESERVED) {
            fault(1, "bed |" + word + " 0 0;");
            fault(1, BEDS + "owl |" + word + " a 1;");
            fault(1, "sound |" + word + " mouse 0 0 1 0 0;");
            fault(1, BEDS + "owl o |" + word + " 1;");
            fault(1, OWLS + "bad |" + word + " east;");
            fault(1, OWLS + "deaf |" + word + " mouse;");
            fault(1, BEDS + "wants |" + word + " mouse;");
        }
        for (String word : new String[] {"alone", "here", "sleeps", "none", "wide", "high", "x", "hous", "houses",
            "be", "beds"}) {
            stands(1, "bed " + word + " 0 0;");
            stands(1, "sound " + word + " mouse 0 0 1 0 0;");
            stands(2, "bed " + word + " 0 0;wants " + word + " bell;");
        }
    }

    private static void namesToldTwice() {
        c.says("NAME: told once; 3 a NAME told twice (at it)");
        String told = BEDS + "owl o a 1;" + SOUND;
        for (String name : new String[] {"a", "b", "o", "s"}) {
            fault(3, told + "bed |" + name + " 2 0;");
            fault(3, told + "bed |" + name + " 9 9;");
            fault(3, told + "owl |" + name + " b 1;");
            fault(3, told + "owl |" + name + " a 0;");
            fault(3, told + "sound |" + name + " mouse 0 0 1 0 0;");
            fault(3, told + "sound |" + name + ";");
        }
        stands(7, told + "bed d 2 0;owl p b 1;sound t mouse 0 0 1 0 0;");
        OwlsLent x = Checks.houseOf(told);
        Checks.put(x, told);
        c.due("a new house may have the names of the old one", x.house(), 4);
    }

    private static void asManyAsThereMayBe() {
        c.says("6 BEDS, 6 OWLS, 8 SOUNDS at most; 4 one more than there may be of a sort (at the LINE's first WORD)");
        String beds = Checks.beds(6);
        String sounds = Checks.sounds(8);
        String all = beds + Checks.owls(6) + sounds;
        OwlsLent x = stands(20, all);
        c.due("beds", x.count(0), 6);
        c.due("owls", x.count(1), 6);
        c.due("sounds", x.count(2), 8);
        c.due("the last bed", x.bed(5, 0), 5);
        c.due("the last owl", x.owl(5, 0), 5);
        c.due("the last sound", x.sound(7, 3), 9);
        for (String more : new String[] {"|bed g 0 1;", "|bed ba 0 0;", "|bed", "|bed;", "|bed 1", "|owl q ba 1;", "|owl",
            "|owl;", "|sound z mouse 0 0 1 0 0;", "|sound", "|sound sa;"}) {
            fault(4, all + more);
        }
        fault(4, beds + "|bed g 0 1;");
        fault(4, sounds + "|sound z mouse 0 0 1 0 0;");
        fault(1, beds + "|b;");
        stands(15, beds + sounds + "shut 1 2;");
        stands(28, all + "shut 1 2;wants ba bell;wants bf road;bad oa east;bad of west;deaf oa bell;deaf of bell;"
            + "deaf of voice;");
    }

    private static void firstAlongTheText() {
        c.says("FAULTS, the first along the text, of one TOKEN the least");
        fault(2, "house |1 1;house 1 1;");
        fault(2, "house 4 |1;@");
        fault(1, "|@house 1 1;");
        fault(2, "bed a |6 6;");
        fault(3, "bed a 0 0;bed |a 6 6;");
        fault(2, "bed a 0 0;bed b |6 0;");
        fault(2, "bed a 0 0;bed b 0 |6;");
        fault(3, BEDS + "owl |a q 0;");
        fault(3, BEDS + "owl o |q 0;");
        fault(1, "sound |1 cat 9 9 99 99 99");
        fault(1, "sound s |cat 9 9 99 99 99");
        fault(2, "sound s bell |9 9 99 99 99");
        fault(2, "sound s bell 5 |9 99 99 99");
        fault(2, "sound s bell 5 5 |99 99 99");
        fault(2, "sound s bell 5 5 30 |99 99");
        fault(2, "sound s bell 5 5 30 23 |99");
        fault(1, "bed a 0 0|");
        // a number where a name is due, and a name where a number is due, can't come: not 2, not 3
        fault(1, "bed a 0 0;bed |999 0 0;");
        fault(1, "bed a 0 0;bed b |a 0;");
    }

    private static void theEnd() {
        c.says("the end: how many bytes there are");
        fault(1, "bed|");
        fault(1, "bed   |");
        fault(1, "bed a\n\n|");
        fault(1, "bed a 0 0 |");
        fault(1, "house 4|");
        fault(1, BEDS + "owl o a|");
        fault(1, OWLS + "bad|");
        fault(1, OWLS + "deaf o|");
        fault(1, "shut 5 |");
        fault(1, BEDS + "wants a |");
        fault(1, "bed a" + " ".repeat(895) + "|");
    }

    private static void mostBytes() {
        c.says("a text of at most 900 bytes; the most bytes told, if there are more and no FAULT is ahead");
        stands(1, "bed a 0 0;" + " ".repeat(890));
        stands(1, " ".repeat(890) + "bed a 0 0;");
        stands(0, " ".repeat(900));
        stands(0, "\n".repeat(900));
        fault(1, " ".repeat(900) + "|" + " ");
        fault(1, " ".repeat(900) + "|" + "\n".repeat(40));
        fault(1, "bed a 0 0;" + " ".repeat(890) + "| ");
        fault(1, "bed a 0 0;" + " ".repeat(890) + "|bed b 1 0;");
        fault(1, " ".repeat(891) + "bed a 0 0|;");
        fault(1, "bed a" + " ".repeat(895) + "| 0 0;");
        fault(1, "bed a" + " ".repeat(895) + "|0 0;");
        fault(1, " ".repeat(900) + "|@");
        fault(1, " ".repeat(900) + "|house 4 4;");
        // a fault ahead of the most bytes is the first
        fault(3, "bed a 0 0;bed |a 1 0;" + " ".repeat(890));
        fault(1, "bed |;" + " ".repeat(930));
        fault(1, " ".repeat(899) + "|;" + " ".repeat(40));
        fault(1, " ".repeat(899) + "|@ ");
    }

    private static void tokensAheadOfTheMost() {
        c.says("TOKENS that begin ahead of it are read whole");
        // eight letters that begin at 899 are no token, seven are one
        fault(1, "bed" + " ".repeat(896) + "|abcdefgh 0 0;");
        fault(1, "bed" + " ".repeat(896) + "a|bcdefg 0 0;");
        fault(1, "bed" + " ".repeat(896) + "a|bcdefg");
        fault(1, "bed" + " ".repeat(896) + "a| 0 0;");
        // what is told twice is told by all its letters
        fault(3, "bed ab 0 0;bed" + " ".repeat(885) + "|ab 1 0;");
        fault(1, "bed a 0 0;bed" + " ".repeat(886) + "a|b 1 0;");
        fault(3, "bed ab 0 0;owl o" + " ".repeat(883) + "|a 1;");
        // 10 is no X, 1 would be one
        fault(2, "bed a" + " ".repeat(894) + "|10 0;");
        fault(1, "bed a" + " ".repeat(894) + "1| 0;");
        fault(1, "bed a" + " ".repeat(894) + "|1000 0;");
        fault(1, "bed a" + " ".repeat(894) + "0|05 0;");
        fault(3, "bed a 1 0;bed b 1" + " ".repeat(882) + "|000;");
        fault(4, Checks.beds(6) + " ".repeat(899 - Checks.beds(6).length()) + "|bed g 0 1;");
        fault(1, Checks.beds(6) + " ".repeat(900 - Checks.beds(6).length()) + "|bed g 0 1;");
        fault(3, "bed a 0 0;" + " ".repeat(889) + "|house 4 4;");
        fault(1, "bed a 0 0" + " ".repeat(890) + "|bed b 1 0;");
        fault(1, "bed a 0 0" + " ".repeat(890) + ";|bed b 1 0;");
    }

    private static void whatAFaultLeaves() {
        c.says("-1 less the place of a FAULT: it stays; 0 without one and ahead of any");
        OwlsLent x = new OwlsLent();
        c.due("fault() ahead of any", x.fault(), 0);
        Checks.put(x, OWLS + SOUND);
        x.house();
        c.due("fault() without one", x.fault(), 0);
        Checks.put(x, "told");
        x.sentence();
        x.lend(0, 0);
        x.hush(0);
        x.shout(3, 3, 9);
        x.hours(2);
        String whole = "house 9 9;shut 1 2;bed z 8 8;owl y z 3;sound w bell 8 8 9 0 23;wants z bell;bad y east;deaf y road;";
        Checks.put(x, whole + ";");
        c.due("a fault at the end of a whole house", x.house(), -1 - whole.length());
        c.due("its kind", x.fault(), 1);
        int[] counts = {2, 2, 1, 6, 6, 0};
        for (int what = 0; what < 6; what++) {
            c.due("count(" + what + ") stays", x.count(what), counts[what]);
        }
        int[] nows = {2, 0, 1, 0, 0};
        for (int what = 0; what < 5; what++) {
            c.due("now(" + what + ") stays", x.now(what), nows[what]);
        }
        c.due("the shout is counted still", x.now(7), 1);
        c.due("o's bad side stays", x.owl(0, 2), -1);
        c.due("o's kinds stay", x.owl(0, 3), 0);
        c.due("a's wish stays", x.bed(0, 3), -1);
        c.due("the sentence stays", x.said(-1), 0);
        c.due("acts can be undone still", x.undo(), 2);
        c.due("fault() is the latest one's still", x.fault(), 1);
        x.note(0);
        c.due("a's name stays", x.byteAt(0), 'a');
    }
}

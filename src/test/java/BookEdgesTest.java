/** Each edge that the document names of the texts of a BOOK and of a SENTENCE, by its words; promises 5 and 37 to 40. */
public final class BookEdgesTest {
    private static final String HOUSE = "house 4 3;bed a 0 0;bed b 3 2;bed e 3 0;owl o a 2;owl p b 2;"
        + "sound s mouse 0 0 6 0 23;sound t road 1 0 6 0 23;shut 6 17;";
    private static final Checks c = new Checks("BookEdgesTest");

    public static void main(String[] args) {
        bookLines();
        bookNames();
        bookNumbers();
        fortyLines();
        bookBytes();
        booksBehindOneWithAFault();
        livesAnother();
        wholeBooks();
        booksJudgedOnly();
        booksLived();
        whyWrong();
        shoutsInABook();
        aBooksShout();
        hoursInABook();
        toldWhat();
        toldOfTheLatest();
        sentenceWords();
        sentenceNames();
        sentenceNumbers();
        twentyOnes();
        eightWithin();
        sentenceBytes();
        sentenceStays();
        eachOne();
        signsAndNumbers();
        joined();
        longSentences();
        saidOfNone();
        faultOfTheLatest();
        c.end();
    }

    private static void bookFault(int kind, String marked) {
        int place = marked.indexOf('|');
        OwlsLent x = Checks.houseOf(HOUSE);
        x.hush(1);
        for (int lives = 0; lives < 2; lives++) {
            Checks.put(x, marked.substring(0, place) + marked.substring(place + 1));
            c.due("book(" + lives + ") of '" + marked + "'", x.book(lives), -2 - place);
            c.due("fault() of '" + marked + "'", x.fault(), kind);
            c.due("the tape behind '" + marked + "'", x.count(5), 0);
            c.due("told(0) ahead of any book without a fault: '" + marked + "'", x.told(0), -1);
        }
        c.due("nothing is lived of '" + marked + "'", x.now(0) + x.now(7), 0);
        c.due("nothing is undone of it", x.undo(), 0);
    }

    /** A book that is judged alone: the line that is wrong, and why. */
    private static OwlsLent judge(String text, int line, int why) {
        OwlsLent x = Checks.houseOf(HOUSE);
        judge(x, text, line, why);
        return x;
    }

    private static void judge(OwlsLent x, String text, int line, int why) {
        Checks.put(x, text);
        c.due("book(0) of '" + text + "'", x.book(0), line);
        c.due("told(0) of '" + text + "'", x.told(0), why);
        c.due("fault() of '" + text + "'", x.fault(), 0);
        c.due("the tape behind '" + text + "'", x.count(5), 0);
    }

    private static void sentenceFault(int kind, String marked) {
        int place = marked.indexOf('|');
        OwlsLent x = Checks.houseOf(HOUSE);
        Checks.put(x, marked.substring(0, place) + marked.substring(place + 1));
        c.due("sentence() of '" + marked + "'", x.sentence(), -1 - place);
        c.due("fault() of '" + marked + "'", x.fault(), kind);
        c.due("the tape behind '" + marked + "'", x.count(5), 0);
        c.due("no sentence behind '" + marked + "'", x.said(-1), -1);
    }

    private static void ones(int ones, String text) {
        OwlsLent x = Checks.houseOf(HOUSE);
        Checks.put(x, text);
        c.due("sentence() of '" + text + "'", x.sentence(), ones);
        c.due("fault() of '" + text + "'", x.fault(), 0);
        c.due("the tape behind '" + text + "'", x.count(5), 0);
        c.due("there is a sentence '" + text + "'", x.said(-1) >= 0, true);
    }

    private static void bookLines() {
        c.says("A BOOK: { LINE ; }: 'lend' OWL BED | 'hush' SOUND | 'let' SOUND | 'shout' X Y LOUD | 'hour' N");
        judge("", -1, 0);
        judge(" \n ", -1, 0);
        judge("lend o e;hush s;let s;shout 0 0 1;hour 1;", -1, 0);
        judge("lend\no\ne\n;hush s ; hour 1 ;", -1, 0);
        bookFault(1, "|;");
        bookFault(1, "hush s;|;");
        bookFault(1, "hush s|");
        bookFault(1, "hush s |hush t;");
        bookFault(1, "hush s |t;");
        bookFault(1, "lend|");
        bookFault(1, "lend o|");
        bookFault(1, "lend o e|");
        bookFault(1, "lend o e |a;");
        bookFault(1, "hush|;");
        bookFault(1, "let|;");
        bookFault(1, "shout|;");
        bookFault(1, "shout 0|;");
        bookFault(1, "shout 0 0|;");
        bookFault(1, "shout 0 0 1|");
        bookFault(1, "shout 0 0 1 |1;");
        bookFault(1, "hour|;");
        bookFault(1, "hour 1|");
        bookFault(1, "hour 1 |1;");
        bookFault(1, "hour |s;");
        bookFault(1, "|1;");
        bookFault(1, "|s;");
        bookFault(1, "|hush1 s;");
        bookFault(1, "hush s;|@");
        for (String word : Checks.RESERVED) {
            if (!"lend hush let shout hour".contains(word) || word.equals("or")) {
                bookFault(1, "|" + word + " s;");
            }
        }
    }

    private static void bookNames() {
        c.says("3 a NAME not told, or of another sort (at it); 1 one that can't come (at it)");
        bookFault(3, "lend |q e;");
        bookFault(3, "lend |a e;");
        bookFault(3, "lend |s e;");
        bookFault(3, "lend o |q;");
        bookFault(3, "lend o |p;");
        bookFault(3, "lend o |s;");
        bookFault(3, "lend |q z;");
        for (String line : new String[] {"hush ", "let "}) {
            bookFault(3, line + "|q;");
            bookFault(3, line + "|a;");
            bookFault(3, line + "|o;");
            bookFault(1, line + "|1;");
            bookFault(1, line + "|abcdefgh;");
            bookFault(1, line + "|mouse;");
        }
        for (String word : Checks.RESERVED) {
            bookFault(1, "lend |" + word + " a;");
            bookFault(1, "lend o |" + word + ";");
            bookFault(1, "hush |" + word + ";");
        }
        OwlsLent x = Checks.houseOf(HOUSE);
        Checks.put(x, "bed q 0 0;");
        x.house();
        Checks.put(x, "lend o a;");
        c.due("names of the old house are told no more", x.book(0), -7);
        c.due("that is a fault of names", x.fault(), 3);
    }

    private static void bookNumbers() {
        c.says("'shout' X Y LOUD (0 to 8 each; 1 to 30) | 'hour' N (1 to 60); 2 a NUMBER that is not as told (at it)");
        for (int at = 0; at <= 8; at++) {
            judge("shout " + at + " 0 1;", at < 4 ? -1 : 0, at < 4 ? 0 : 39);
            judge("shout 0 " + at + " 1;", at < 3 ? -1 : 0, at < 3 ? 0 : 39);
        }
        for (int wrong : new int[] {9, 10, 99, 256, 999}) {
            bookFault(2, "shout |" + wrong + " 0 1;");
            bookFault(2, "shout 0 |" + wrong + " 1;");
        }
        for (int loud = 1; loud <= 30; loud++) {
            judge("shout 0 0 " + loud + ";", -1, 0);
        }
        for (int wrong : new int[] {0, 31, 100, 257, 999}) {
            bookFault(2, "shout 0 0 |" + wrong + ";");
        }
        for (int n = 1; n <= 60; n++) {
            c.due("the hour behind 'hour " + n + "'", judge("hour " + n + ";", -1, 0).told(2), n);
        }
        for (int wrong : new int[] {0, 61, 100, 257, 999}) {
            bookFault(2, "hour |" + wrong + ";");
        }
        bookFault(1, "hour |0001;");
        bookFault(2, "hush s;hour |61");
        judge("hour 060;", -1, 0);
    }

    private static void fortyLines() {
        c.says("40 at most; 4 a 41st LINE of a BOOK (at the LINE's first WORD)");
        c.due("40 are lines", judge("hour 1;".repeat(40), -1, 0).told(1), 40);
        String forty = "hour 1;".repeat(40);
        bookFault(4, forty + "|hour 1;");
        bookFault(4, forty + " \n|hour 1;");
        bookFault(4, forty + "|hour 0;");
        bookFault(4, forty + "|hour");
        bookFault(4, forty + "|hush q;");
        bookFault(4, forty + "|lend;");
        bookFault(1, forty + "|;");
        bookFault(1, forty + "|bed;");
        bookFault(1, forty + "|q;");
        bookFault(1, forty + "|@");
        bookFault(2, "hour 1;".repeat(39) + "hour |0;" + "hour 1;");
        bookFault(1, "hour 1;".repeat(39) + "hour 1|");
    }

    private static void bookBytes() {
        c.says("a text of at most 400 bytes; the most bytes told, if there are more;"
            + " TOKENS that begin ahead of it are read whole");
        judge("hush s;" + " ".repeat(393), -1, 0);
        judge(" ".repeat(393) + "hush s;", -1, 0);
        judge(" ".repeat(400), -1, 0);
        bookFault(1, " ".repeat(400) + "| ");
        bookFault(1, " ".repeat(400) + "|" + "\n".repeat(540));
        bookFault(1, "hush s;" + " ".repeat(393) + "| ");
        bookFault(1, " ".repeat(394) + "hush s|;");
        bookFault(1, " ".repeat(400) + "|hush s;");
        bookFault(1, " ".repeat(400) + "|@");
        bookFault(3, "hush" + " ".repeat(395) + "|ss;");
        bookFault(1, "hush" + " ".repeat(395) + "s|;");
        bookFault(1, "hush" + " ".repeat(395) + "|ssssssss");
        bookFault(2, "hour" + " ".repeat(395) + "|61;");
        bookFault(1, "hour" + " ".repeat(395) + "6|0;");
        bookFault(1, "hour" + " ".repeat(396) + "|0;");
        bookFault(3, "hush |q;" + " ".repeat(500));
        bookFault(4, "hour 1;".repeat(40) + " ".repeat(119) + "|hour 1;");
        bookFault(1, "hour 1;".repeat(40) + " ".repeat(120) + "|hour 1;");
    }

    private static void booksBehindOneWithAFault() {
        c.says("The tape is a BOOK: nothing of an earlier one is left");
        for (String fault : new String[] {"lend o q;", "lend q", "shout 0 0 31;", "shout 9", "hour 61;", "hush q",
            "lend o e;@"}) {
            OwlsLent x = Checks.houseOf(HOUSE);
            Checks.put(x, fault);
            c.due("a fault of '" + fault + "'", x.book(1) < -1, true);
            judge(x, "hush s;let s;let s;hour 1;", 2, 21);
            Checks.put(x, fault);
            x.book(0);
            judge(x, "shout 0 0 1;hour 1;shout 3 2 1;shout 0 0 1;", 3, 31);
            Checks.put(x, fault);
            x.book(0);
            judge(x, "lend o e;lend p a;lend o b;lend p a;", 3, 1);
            judge(x, "hour 60;", -1, 0);
            judge(x, "", -1, 0);
            c.due("no lines ahead", x.told(1), 0);
        }
        OwlsLent x = Checks.houseOf(HOUSE);
        judge(x, "hour 1;".repeat(40), -1, 0);
        judge(x, "let s;", 0, 21);
        judge(x, "hour 2;", -1, 0);
        c.due("one line", x.told(1), 1);
        c.due("two hours", x.told(2), 2);
    }

    private static void livesAnother() {
        c.says("lives 0, 1; -1000: another lives (the tape stays)");
        for (int lives : new int[] {-1, 2, 3, 256, 257, Integer.MAX_VALUE, Integer.MIN_VALUE, Integer.MIN_VALUE + 1}) {
            OwlsLent x = Checks.houseOf(HOUSE);
            Checks.put(x, "hush s;");
            c.due("book(" + lives + ")", x.book(lives), -1000);
            c.due("the tape behind book(" + lives + ")", x.count(5), 7);
            c.due("nothing is told", x.told(0), -1);
            c.due("nothing is hushed", x.now(2), 0);
            c.due("the book is there still", x.book(0), -1);
        }
        OwlsLent x = Checks.houseOf(HOUSE);
        Checks.put(x, "@");
        c.due("a fault is not looked for", x.book(2), -1000);
        c.due("none is told", x.fault(), 0);
        c.due("it is there", x.book(1), -2);
        c.says("a book() of -1000 leaves it");
        x.book(2);
        c.due("fault()", x.fault(), 1);
        Checks.put(x, "hush s;let s;let s;");
        x.book(0);
        x.book(5);
        c.due("told(0) is of the latest that was not -1000", x.told(0), 21);
        c.due("told(1)", x.told(1), 2);
    }

    private static void wholeBooks() {
        c.says("the LINE that is WRONG (from 0); NONE: none");
        judge("", -1, 0);
        judge("hush s;", -1, 0);
        judge("let s;", 0, 21);
        judge("hush s;hush s;let t;", 1, 11);
        judge("hour 1;".repeat(39) + "let s;", 39, 21);
        judge("let s;hour 1;let s;", 0, 21);
    }

    private static void booksJudgedOnly() {
        c.says("it is judged, all staying as it is (lives 0)");
        OwlsLent x = Checks.houseOf(HOUSE);
        x.hush(1);
        Checks.put(x, "lend o e;hush s;let t;shout 3 1 30;hour 3;");
        c.due("book(0)", x.book(0), -1);
        c.due("the hour then", x.told(2), 3);
        c.due("the hour", x.now(0), 0);
        c.due("sounds that are on", x.now(1), 1);
        c.due("hushed", x.now(2), 2);
        c.due("all know", x.now(5), 0);
        c.due("all miss", x.now(6), 0);
        c.due("shouts", x.now(7), 0);
        c.due("o's bed", x.owl(0, 0), 0);
        c.due("one act to undo", x.undo(), 0);
        c.due("and no other", x.undo(), -1);
    }

    private static void booksLived() {
        c.says("lived as far as it is not WRONG (1); a BOOK of which a LINE was lived is undone");
        OwlsLent x = Checks.houseOf(HOUSE);
        Checks.put(x, "");
        c.due("an empty book", x.book(1), -1);
        c.due("nothing to undo of it", x.undo(), -1);
        Checks.put(x, "let s;hour 1;");
        c.due("the first line is wrong", x.book(1), 0);
        c.due("no hour went", x.now(0), 0);
        c.due("nothing to undo of that", x.undo(), -1);
        Checks.put(x, "hour 1;let s;hour 1;");
        c.due("the second line is wrong", x.book(1), 1);
        c.due("one hour went", x.now(0), 1);
        c.due("that is undone", x.undo(), 0);
        c.due("hour 0", x.now(0), 0);
        Checks.put(x, "hour 2;shout 0 0 9;hush s;lend o e;");
        c.due("none is wrong", x.book(1), -1);
        c.due("hour 2", x.now(0), 2);
        c.due("a shout", x.now(7), 1);
        c.due("hushed", x.now(2), 1);
        c.due("o's bed", x.owl(0, 0), 2);
        c.due("all of it is one act", x.undo(), 0);
        c.due("all of it is undone", x.now(0) + x.now(7) + x.now(2) + x.owl(0, 0), 0);
        Checks.put(x, "hush s;hush s");
        c.due("a fault behind a good line", x.book(1), -15);
        c.due("nothing is lived", x.now(2), 0);
        c.due("nothing to undo", x.undo(), -1);
    }

    private static void whyWrong() {
        c.says("0 why it was WRONG (0: it was not; 1, 2 as for lending, 11 hushing, 21 letting, 31 shouting, 39, 41)");
        judge("hush s;", -1, 0);
        judge("lend o a;", 0, 1);
        judge("lend o b;", 0, 2);
        judge("lend o e;lend o e;", 1, 1);
        judge("lend o e;lend p a;", -1, 0);
        judge("lend o e;lend p e;", 1, 2);
        judge("hush s;hush s;", 1, 11);
        judge("hush s;hush t;", -1, 0);
        judge("let s;", 0, 21);
        judge("hush s;let s;let s;", 2, 21);
        judge("shout 0 0 1;shout 1 1 1;", 1, 31);
        judge("shout 0 0 1;hour 1;shout 1 1 1;", -1, 0);
        judge("shout 4 0 1;", 0, 39);
        judge("hour 60;hour 60;hour 60;hour 60;hour 60;hour 60;hour 41;", 6, 41);
    }

    private static void shoutsInABook() {
        c.says("31 shouting, 39 there is no such cell");
        judge("shout 3 2 30;", -1, 0);
        judge("shout 4 2 30;", 0, 39);
        judge("shout 3 3 30;", 0, 39);
        judge("shout 8 8 1;", 0, 39);
        OwlsLent x = judge("shout 0 0 1;shout 4 0 1;", 1, 39);
        x.shout(0, 0, 1);
        judge(x, "shout 3 2 1;", 0, 31);
        judge(x, "shout 3 3 1;", 0, 39);
        judge(x, "hour 1;shout 3 2 1;", -1, 0);
        OwlsLent wide = Checks.houseOf("house 9 9;");
        judge(wide, "shout 8 8 30;", -1, 0);
        OwlsLent narrow = Checks.houseOf("house 2 9;");
        judge(narrow, "shout 1 8 30;", -1, 0);
        judge(narrow, "shout 2 8 30;", 0, 39);
    }

    private static void aBooksShout() {
        c.says("'shout' X Y LOUD: somebody SHOUTS in that cell, so LOUD");
        for (int at = 0; at < 9; at++) {
            OwlsLent x = Checks.houseOf("house 9 9;bed a 0 0;bed b 8 8;owl o a 20;");
            Checks.put(x, "shout " + at + " 2 " + (22 + at) + ";");
            c.due("as loud as told from on, by X", x.book(1), -1);
            c.due("o looks at it", x.owl(0, 5), 0);
            c.due("to the side", x.owl(0, 4), at >= 2 ? 0 : 1);
            x.undo();
            Checks.put(x, "shout 1 " + at + " " + (20 + at) + ";");
            c.due("less loud, by Y", x.book(1), -1);
            c.due("o does not hear it", x.owl(0, 5), -1);
            x.undo();
            Checks.put(x, "shout " + at + " 8 " + (12 - at) + ";hour 1;");
            c.due("at b", x.book(1), -1);
            c.due("missed there, if it is 5 loud", x.bed(1, 5), 12 - at - (8 - at) >= 5 ? 1 : 0);
            x.undo();
            Checks.put(x, "shout 8 " + at + " " + (13 - at) + ";hour 1;");
            c.due("at b", x.book(1), -1);
            c.due("missed there", x.bed(1, 5), 1);
        }
    }

    private static void hoursInABook() {
        c.says("41: fewer HOURS are left");
        OwlsLent x = Checks.houseOf(HOUSE);
        for (int i = 0; i < 5; i++) {
            x.hours(60);
        }
        x.hours(40);
        judge(x, "hour 60;", -1, 0);
        x.hours(1);
        judge(x, "hour 60;", 0, 41);
        judge(x, "hour 59;", -1, 0);
        c.due("hour 400 then", x.told(2), 400);
        judge(x, "hour 59;hush s;hour 1;", 2, 41);
        judge(x, "hour 58;hour 1;", -1, 0);
        judge(x, "hour 58;hour 2;hour 1;", 1, 41);
        c.due("none of its hours went", x.told(2), 399);
        Checks.put(x, "hour 58;hour 2;");
        c.due("lived", x.book(1), 1);
        c.due("as far as that", x.now(0), 399);
        Checks.put(x, "hour 1;");
        c.due("the last hour", x.book(1), -1);
        judge(x, "hour 1;", 0, 41);
        judge(x, "hush s;lend o e;shout 0 0 1;", -1, 0);
    }

    private static void toldWhat() {
        c.says("1 how many LINES are ahead of the one that is WRONG (all, if none is), 2 the HOUR then, 3 OWLS "
            + "that LOOK then");
        OwlsLent x = Checks.houseOf(HOUSE);
        // o looks at s, p at t, 2 loud there
        Checks.put(x, "");
        x.book(0);
        c.dueTold(x, 0, 0, 0, 3);
        Checks.put(x, "hour 5;hush t;let t;let t;hour 1;");
        x.book(0);
        c.dueTold(x, 21, 3, 5, 3);
        Checks.put(x, "hour 5;hush s;hour 1;");
        x.book(0);
        c.dueTold(x, 0, 3, 6, 0);
        Checks.put(x, "hush t;");
        x.book(0);
        c.dueTold(x, 0, 1, 0, 1);
        Checks.put(x, "hush t;shout 3 2 30;");
        x.book(0);
        c.dueTold(x, 0, 2, 0, 3);
        c.says("NONE: another what, or ahead of any");
        for (int what : new int[] {-1, 4, 5, Integer.MAX_VALUE, Integer.MIN_VALUE}) {
            c.due("told(" + what + ")", x.told(what), -1);
        }
        OwlsLent fresh = new OwlsLent();
        for (int what = -1; what < 5; what++) {
            c.due("told(" + what + ") ahead of any", fresh.told(what), -1);
        }
    }

    private static void toldOfTheLatest() {
        c.says("Of the latest book() that had no FAULT (and was not -1000)");
        OwlsLent x = Checks.houseOf(HOUSE);
        Checks.put(x, "@");
        x.book(0);
        x.book(9);
        c.due("a fault, and -1000, are none", x.told(0), -1);
        Checks.put(x, "hour 2;let t;");
        x.book(1);
        c.dueTold(x, 21, 1, 2, 3);
        Checks.put(x, "hush q;");
        x.book(1);
        c.dueTold(x, 21, 1, 2, 3);
        Checks.put(x, "hush t;");
        x.book(9);
        c.dueTold(x, 21, 1, 2, 3);
        x.end(0);
        x.undo();
        x.hush(0);
        c.dueTold(x, 21, 1, 2, 3);
        c.says("A new HOUSE: what other calls told last stays");
        Checks.put(x, "house 9 9;");
        x.house();
        c.dueTold(x, 21, 1, 2, 3);
        x.book(0);
        c.dueTold(x, 0, 0, 0, 0);
    }

    private static void sentenceWords() {
        c.says("COND: ALL { 'or' ALL }. ALL: ONE { 'and' ONE }. ONE: 'not' ONE | ( COND ) | 'blind' | ..");
        sentenceFault(1, "|");
        sentenceFault(1, "  |");
        sentenceFault(1, "|;");
        sentenceFault(1, "|)");
        sentenceFault(1, "|or told");
        sentenceFault(1, "|and told");
        sentenceFault(1, "|east");
        sentenceFault(1, "|a");
        sentenceFault(1, "|1");
        sentenceFault(1, "told |told");
        sentenceFault(1, "told |not told");
        sentenceFault(1, "told |(told)");
        sentenceFault(1, "told|;");
        sentenceFault(1, "told|)");
        sentenceFault(1, "told or|");
        sentenceFault(1, "told and|");
        sentenceFault(1, "told or |or told");
        sentenceFault(1, "told and |or told");
        sentenceFault(1, "told or |)");
        sentenceFault(1, "not|");
        sentenceFault(1, "not |and told");
        sentenceFault(1, "(|");
        sentenceFault(1, "(|)");
        sentenceFault(1, "(told|");
        sentenceFault(1, "(told|;");
        sentenceFault(1, "(told or told|");
        sentenceFault(1, "(told)|)");
        sentenceFault(1, "((told)|");
        sentenceFault(1, "looks|");
        sentenceFault(1, "looks |told");
        sentenceFault(1, "looks |mouse");
        sentenceFault(1, "looks |4");
        sentenceFault(1, "looks |a");
        sentenceFault(1, "hears|");
        sentenceFault(1, "hears |east");
        sentenceFault(1, "hears |number");
        sentenceFault(1, "hears |1");
        for (String word : Checks.RESERVED) {
            if (!" not blind told looks by hears knows missed number ".contains(" " + word + " ")) {
                sentenceFault(1, "|" + word);
                sentenceFault(1, "not |" + word);
                sentenceFault(1, "told or (told and |" + word);
            }
        }
        c.says("how many ONES (each not, bracket and other one)");
        ones(1, "blind");
        ones(1, "told");
        ones(1, "looks east");
        ones(1, "by o");
        ones(1, "hears bell");
        ones(1, "knows<1");
        ones(2, "not blind");
        ones(2, "(blind)");
        ones(3, "not (blind)");
        ones(3, "(not blind)");
        ones(2, "blind or told");
        ones(2, "blind and told");
        ones(6, "not (blind or told) and not told");
        ones(5, "(told)and(told)or told");
    }

    private static void sentenceNames() {
        c.says("'by' OWL; 3 a NAME not told, or of another sort");
        ones(1, "by o");
        ones(1, "by p");
        sentenceFault(3, "by |a");
        sentenceFault(3, "by |s");
        sentenceFault(3, "by |q");
        sentenceFault(3, "told or by |q");
        sentenceFault(1, "by|");
        sentenceFault(1, "by |1");
        sentenceFault(1, "by |(o)");
        for (String word : Checks.RESERVED) {
            sentenceFault(1, "by |" + word);
        }
    }

    private static void sentenceNumbers() {
        c.says("( 'knows' | 'missed' | 'number' ) SIGN NUMBER. SIGN: < = >");
        for (String word : new String[] {"knows", "missed", "number"}) {
            for (String sign : new String[] {"<", "=", ">"}) {
                ones(1, word + sign + "0");
                ones(1, word + " " + sign + "\n999");
                sentenceFault(1, word + sign + "|");
                sentenceFault(1, word + sign + "|1000");
                sentenceFault(1, word + sign + "|a");
                sentenceFault(1, word + sign + "|" + sign + "1");
                sentenceFault(1, word + sign + "1 |1");
            }
            for (String sign : new String[] {";", "(", ")", ".", "1", "a", "told", "@"}) {
                sentenceFault(1, word + " |" + sign + " 1");
            }
            sentenceFault(1, word + "|");
        }
    }

    private static void twentyOnes() {
        c.says("20 ONES; 4 a 21st ONE (at its first TOKEN)");
        ones(20, "told" + " or told".repeat(19));
        ones(20, "told" + " and told".repeat(19));
        ones(20, "(told" + " or told".repeat(18) + ")");
        ones(20, "not told" + " or not told".repeat(9));
        sentenceFault(4, "told" + " or told".repeat(19) + " or |told");
        sentenceFault(4, "told" + " or told".repeat(19) + " or |not told");
        sentenceFault(4, "told" + " or told".repeat(19) + " and |(told)");
        sentenceFault(4, "told" + " or told".repeat(19) + " and |knows");
        sentenceFault(4, "told" + " and told".repeat(19) + " and |told");
        sentenceFault(4, "told" + " and told".repeat(19) + " or |told");
        sentenceFault(4, "told" + " or told".repeat(18) + " or not |told");
        sentenceFault(4, "told" + " or told".repeat(18) + " or (|told)");
        sentenceFault(4, "(told" + " or told".repeat(18) + " or |told)");
        sentenceFault(4, "(told" + " or told".repeat(18) + ") or |told");
        sentenceFault(1, "told" + " or told".repeat(19) + " or |or");
        sentenceFault(1, "told" + " or told".repeat(19) + " or |");
        sentenceFault(1, "told" + " or told".repeat(19) + " |told");
        sentenceFault(1, "told" + " or told".repeat(19) + "|;");
    }

    private static void eightWithin() {
        c.says("8 within one another; 4 a ninth within (at its first TOKEN)");
        ones(8, "not ".repeat(7) + "told");
        sentenceFault(4, "not ".repeat(8) + "|told");
        sentenceFault(4, "not ".repeat(8) + "|not told");
        sentenceFault(4, "not ".repeat(8) + "|(told)");
        sentenceFault(1, "not ".repeat(8) + "|or");
        sentenceFault(1, "not ".repeat(8) + "|");
        ones(8, "(".repeat(7) + "told" + ")".repeat(7));
        sentenceFault(4, "(".repeat(8) + "|told" + ")".repeat(8));
        sentenceFault(4, "(".repeat(8) + "|(told" + ")".repeat(9));
        sentenceFault(1, "(".repeat(8) + "|)");
        ones(8, "not (".repeat(3) + "not told" + ")".repeat(3));
        sentenceFault(4, "not (".repeat(4) + "|told" + ")".repeat(4));
        sentenceFault(4, "(".repeat(7) + "not |told");
        // those that stand side by side are not within one another
        ones(20, "(".repeat(7) + "told" + " and told".repeat(12) + ")".repeat(7));
        ones(16, "not ".repeat(7) + "told or " + "not ".repeat(7) + "told");
        ones(16, "(".repeat(7) + "told" + ")".repeat(7) + "and" + "(".repeat(7) + "told" + ")".repeat(7));
        sentenceFault(4, "told and " + "(".repeat(8) + "|told");
        sentenceFault(4, "(".repeat(7) + "told and (|told");
    }

    private static void sentenceBytes() {
        c.says("a text of at most 200 bytes; the most bytes told, if there are more;"
            + " TOKENS that begin ahead of it are read whole");
        ones(1, "told" + " ".repeat(196));
        ones(1, " ".repeat(196) + "told");
        sentenceFault(1, "told" + " ".repeat(196) + "| ");
        sentenceFault(1, "told" + " ".repeat(196) + "|" + "\n".repeat(740));
        sentenceFault(1, "told" + " ".repeat(196) + "|or told");
        sentenceFault(1, " ".repeat(197) + "tol|d");
        sentenceFault(1, " ".repeat(199) + "t|old");
        sentenceFault(1, " ".repeat(200) + "|told");
        sentenceFault(1, " ".repeat(200) + "| ");
        sentenceFault(1, " ".repeat(199) + "|tolds");
        sentenceFault(3, "by" + " ".repeat(197) + "|oo");
        sentenceFault(1, "by" + " ".repeat(197) + "o| ");
        sentenceFault(1, "by" + " ".repeat(198) + "|q");
        sentenceFault(1, "knows<" + " ".repeat(193) + "|1000");
        sentenceFault(1, "knows<" + " ".repeat(193) + "1|00");
        sentenceFault(1, " ".repeat(200) + "|");
        sentenceFault(1, " ".repeat(180) + "|");
        sentenceFault(3, "by |q" + " ".repeat(300));
    }

    private static void sentenceStays() {
        c.says("The tape is the SENTENCE now; -1 less the place of a FAULT: it stays");
        OwlsLent x = Checks.houseOf(HOUSE);
        c.dueSaid(x, "blind", 2);
        for (String wrong : new String[] {"", "told told", "told or told or by q", "not not told and", "told or"}) {
            Checks.put(x, wrong);
            c.due("a fault of '" + wrong + "'", x.sentence() < 0, true);
            c.due("blind still: one", x.said(-1), 1);
            c.due("blind still", x.said(0), 2);
        }
        c.dueSaid(x, "told", 0, 1);
        Checks.put(x, "bed");
        x.house();
        c.due("a house with a fault leaves it", x.said(-1), 2);
        x.lend(0, 2);
        x.undo();
        c.due("undo() leaves it", x.said(-1), 2);
        Checks.put(x, HOUSE);
        x.house();
        c.says("A new HOUSE: no SENTENCE");
        c.due("said(-1)", x.said(-1), -1);
        c.due("said(0)", x.said(0), -1);
    }

    private static void eachOne() {
        c.says("'blind' | 'told' | 'looks' SIDE | 'by' OWL | 'hears' KIND");
        // o by a looks here at s, p by b to the west at t; nobody is by e
        OwlsLent x = Checks.houseOf(HOUSE);
        c.dueSaid(x, "blind", 2);
        c.dueSaid(x, "told", 0, 1);
        c.dueSaid(x, "not told", 2);
        c.dueSaid(x, "looks east");
        c.dueSaid(x, "looks south");
        c.dueSaid(x, "looks west", 1);
        c.dueSaid(x, "looks north");
        c.dueSaid(x, "told and not looks east and not looks south and not looks west and not looks north", 0);
        c.dueSaid(x, "by o", 0);
        c.dueSaid(x, "by p", 1);
        c.dueSaid(x, "hears mouse", 0);
        c.dueSaid(x, "hears road", 1);
        c.dueSaid(x, "hears voice");
        c.dueSaid(x, "hears bell");
        c.dueSaid(x, "not hears mouse", 1, 2);
        x.shout(3, 2, 30);
        c.dueSaid(x, "hears voice", 0, 1);
        x.hours(6);
        c.dueSaid(x, "told");
        c.dueSaid(x, "hears mouse or hears voice or looks east");
        c.dueSaid(x, "by o", 0);
        c.dueSaid(x, "blind", 2);
        x.lend(1, 2);
        c.dueSaid(x, "blind", 1);
        c.dueSaid(x, "by p", 2);
    }

    private static void signsAndNumbers() {
        c.says("( 'knows' | 'missed' | 'number' ) SIGN NUMBER");
        OwlsLent x = Checks.houseOf(HOUSE);
        c.dueSaid(x, "number < 0");
        c.dueSaid(x, "number = 0", 0);
        c.dueSaid(x, "number > 0", 1, 2);
        c.dueSaid(x, "number < 2", 0, 1);
        c.dueSaid(x, "number = 2", 2);
        c.dueSaid(x, "number > 2");
        c.dueSaid(x, "number < 999", 0, 1, 2);
        c.dueSaid(x, "number = 001", 1);
        c.dueSaid(x, "knows < 0");
        c.dueSaid(x, "knows > 0");
        // t is 5 loud at a; nothing is 5 loud at b and e (t: 2, 4)
        x.hours(3);
        c.dueSaid(x, "knows < 3", 2);
        c.dueSaid(x, "knows = 3", 0, 1);
        c.dueSaid(x, "knows > 2", 0, 1);
        c.dueSaid(x, "knows > 3");
        c.dueSaid(x, "missed < 3", 1, 2);
        c.dueSaid(x, "missed = 3", 0);
        c.dueSaid(x, "missed > 2", 0);
        c.dueSaid(x, "missed > 3");
    }

    private static void joined() {
        c.says("COND: ALL { 'or' ALL }. ALL: ONE { 'and' ONE }. ONE: 'not' ONE | ( COND )");
        OwlsLent x = Checks.houseOf(Checks.beds(6));
        c.dueSaid(x, "number=0 or number=3", 0, 3);
        c.dueSaid(x, "number=0 or number=3 or number=5", 0, 3, 5);
        c.dueSaid(x, "number>0 and number<3", 1, 2);
        c.dueSaid(x, "number>0 and number<5 and not number=3", 1, 2, 4);
        c.dueSaid(x, "number=0 or number>2 and number<5", 0, 3, 4);
        c.dueSaid(x, "number>2 and number<5 or number=0", 0, 3, 4);
        c.dueSaid(x, "(number=0 or number>2) and number<5", 0, 3, 4);
        c.dueSaid(x, "(number=5 or number<2) and number<5", 0, 1);
        c.dueSaid(x, "number=5 or number<2 and number<5", 0, 1, 5);
        c.dueSaid(x, "number<5 and (number=5 or number<2)", 0, 1);
        c.dueSaid(x, "not number=0 and number<2", 1);
        c.dueSaid(x, "not number=0 or number<2", 0, 1, 2, 3, 4, 5);
        c.dueSaid(x, "not (number=0 or number>2)", 1, 2);
        c.dueSaid(x, "not (number<3 and number>0)", 0, 3, 4, 5);
        c.dueSaid(x, "not not number=4", 4);
        c.dueSaid(x, "not not not number=4", 0, 1, 2, 3, 5);
        c.dueSaid(x, "number=0 and number=1 or number=2 and number=2 or number=3 and number=4", 2);
        c.dueSaid(x, "((number=1)or((number=2)))", 1, 2);
    }

    private static void longSentences() {
        c.says("20 ONES, 8 within one another: such sentences are said, too");
        OwlsLent x = Checks.houseOf(Checks.beds(6));
        c.dueSaid(x, "told" + " or told".repeat(17) + " or number=1 or number=4", 1, 4);
        c.dueSaid(x, "number=2" + " or told".repeat(18) + " or number=5", 2, 5);
        OwlsLent y = Checks.houseOf("bed a 0 0;bed b 1 0;bed d 2 0;bed e 3 0;owl o a 1;owl p b 1;owl q d 1;owl r e 1;"
            + "sound s mouse 0 0 9 0 23;");
        c.dueSaid(y, "told" + " and told".repeat(17) + " and number>0 and number<3", 1, 2);
        c.dueSaid(y, "number>1" + " and told".repeat(18) + " and number<3", 2);
        c.dueSaid(x, "told and blind" + " or told and blind".repeat(8) + " or number=3 and blind", 3);
        c.dueSaid(x, "told or (told or (told or (told or (told or (told or (number=5 or number=0))))))", 0, 5);
        c.dueSaid(x, "blind and (told or blind and (told or blind and (told or blind and (told or blind and "
            + "(number=1)))))", 1);
        c.dueSaid(x, "told or blind and (told or blind and (told or blind and (told or blind and (told or blind and "
            + "(number=3 or told)))))", 3);
        c.dueSaid(x, "not ".repeat(7) + "number=2 and not number=5", 0, 1, 3, 4);
        c.dueSaid(x, "(".repeat(7) + "number<2" + ")".repeat(7) + "and" + "(".repeat(7) + "number>0" + ")".repeat(7), 1);
    }

    private static void saidOfNone() {
        c.says("how many (k NONE), or the k-th. NONE: there is no SENTENCE, none such");
        OwlsLent x = new OwlsLent();
        for (int k = -2; k < 3; k++) {
            c.due("said(" + k + ") without a sentence", x.said(k), -1);
        }
        Checks.put(x, "blind");
        c.due("a sentence of no beds", x.sentence(), 1);
        c.due("of none", x.said(-1), 0);
        c.due("no first", x.said(0), -1);
        OwlsLent y = Checks.houseOf(HOUSE);
        c.dueSaid(y, "number < 9", 0, 1, 2);
        for (int k : new int[] {-2, -3, 3, 4, 6, Integer.MAX_VALUE, Integer.MIN_VALUE}) {
            c.due("said(" + k + ")", y.said(k), -1);
        }
        c.dueSaid(y, "number > 9");
        OwlsLent six = Checks.houseOf(Checks.beds(6));
        c.dueSaid(six, "blind", 0, 1, 2, 3, 4, 5);
        c.dueSaid(six, "not number = 0 and not number = 5", 1, 2, 3, 4);
    }

    private static void faultOfTheLatest() {
        c.says("The kind of the FAULT of the latest house(), book() or sentence(); 0 without one and ahead of any");
        OwlsLent x = new OwlsLent();
        c.due("ahead of any", x.fault(), 0);
        Checks.put(x, "hour 0;");
        x.book(0);
        c.due("a book's", x.fault(), 2);
        Checks.put(x, "by o");
        x.sentence();
        c.due("a sentence's", x.fault(), 3);
        x.house();
        c.due("none of a house", x.fault(), 0);
        Checks.put(x, ";");
        x.house();
        c.due("a house's", x.fault(), 1);
        x.book(0);
        c.due("none of a book", x.fault(), 0);
        Checks.put(x, ";");
        x.sentence();
        Checks.put(x, "blind");
        c.due("it stays till the next", x.fault(), 1);
        x.hours(1);
        x.undo();
        x.keen();
        x.image(0);
        x.restore(0);
        c.due("other calls leave it", x.fault(), 1);
        Checks.put(x, "blind");
        x.sentence();
        c.due("none of a sentence", x.fault(), 0);
    }
}

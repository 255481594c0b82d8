/** Promises 37 to 40: books, what is told of them, sentences and of which beds they are said. */
public final class BooksTest {
    private static final String HOUSE = "house 4 3;bed a 0 0;bed b 3 2;bed e 3 0;owl o a 2;owl p b 2;"
        + "sound s mouse 0 0 6 0 23;sound t road 1 0 6 0 23;shut 6 17;";
    private static final Checks c = new Checks("BooksTest");

    public static void main(String[] args) {
        bookFaults();
        bookLengths();
        judged();
        lived();
        wrongLines();
        hoursLeft();
        toldStays();
        sentenceFaults();
        sentenceBounds();
        ones();
        binding();
        saidNow();
        c.end();
    }

    private static void bookFaults() {
        OwlsLent x = Checks.houseOf(HOUSE);
        c.due("told(0) ahead of any", x.told(0), -1);
        String[] faults = {"lend o;", "lend a o;", "lend q a;", "lend o q;", "lend o east;", "lend 1 a;", "hush a;",
            "hush s", "let o;", "let q;", "shout 9 0 1;", "shout 0 9 1;", "shout 0 0 0;", "shout 0 0 31;", "shout 0 0;",
            "hour 0;", "hour 61;", "hour;", "bed z 1 1;", "hush s;;", "told;", "s;", "hush s;hour 61"};
        int[] places = {6, 5, 5, 7, 7, 5, 5, 6, 4, 4, 6, 8, 10, 10, 9, 5, 5, 4, 0, 7, 0, 0, 12};
        int[] kinds = {1, 3, 3, 3, 1, 1, 3, 1, 3, 3, 2, 2, 2, 2, 1, 2, 2, 1, 1, 1, 1, 1, 2};
        for (int i = 0; i < faults.length; i++) {
            c.dueBook(x, faults[i], i % 2, -2 - places[i]);
            c.due("fault() of '" + faults[i] + "'", x.fault(), kinds[i]);
        }
        c.due("told(0) ahead of any without a fault", x.told(0), -1);
        c.due("nothing was lived", x.now(2), 0);
    }

    private static void bookLengths() {
        OwlsLent x = Checks.houseOf(HOUSE);
        c.dueBook(x, "hour 1;".repeat(40), 0, -1);
        c.dueTold(x, 0, 40, 40, 0);
        c.dueBook(x, "hour 1;".repeat(40) + "hour", 0, -282);
        c.due("one line more", x.fault(), 4);
        c.dueBook(x, "hour 1;".repeat(40) + ";", 0, -282);
        c.due("what can't come is the least", x.fault(), 1);
        c.dueBook(x, "hour 1;" + " ".repeat(393), 0, -1);
        c.dueBook(x, "hour 1;" + " ".repeat(394), 0, -402);
        c.due("too many bytes", x.fault(), 1);
        c.dueBook(x, " ".repeat(399) + "hush q;", 0, -402);
        c.dueBook(x, "hush" + " ".repeat(395) + "qq;", 0, -401);
        c.due("read whole", x.fault(), 3);
    }

    private static void judged() {
        OwlsLent x = Checks.houseOf(HOUSE);
        c.dueBook(x, "", 0, -1);
        c.dueTold(x, 0, 0, 0, 3);
        c.dueBook(x, "lend o e;hush s;shout 3 2 9;hour 2;", 0, -1);
        c.dueTold(x, 0, 4, 2, 3);
        c.due("the tape is empty", x.count(5), 0);
        c.due("all stays: the hour", x.now(0), 0);
        c.due("all stays: o", x.owl(0, 0), 0);
        c.due("all stays: s", x.now(2), 0);
        c.due("all stays: the shout", x.now(7), 0);
        c.due("nothing to undo", x.undo(), -1);
        c.dueBook(x, "hush s;hush t;hush s;hour 1;", 0, 2);
        c.dueTold(x, 11, 2, 0, 0);
        c.due("told(4)", x.told(4), -1);
        c.due("told(-1)", x.told(-1), -1);
    }

    private static void lived() {
        OwlsLent x = Checks.houseOf(HOUSE);
        Checks.put(x, "hush s;");
        c.due("lives 2", x.book(2), -1000);
        c.due("lives -1", x.book(-1), -1000);
        c.due("the tape stays", x.count(5), 7);
        c.due("nothing was told", x.told(0), -1);
        c.dueBook(x, "lend o e;hush s;shout 3 2 9;hour 2;", 1, -1);
        c.dueTold(x, 0, 4, 2, 3);
        c.due("the hour", x.now(0), 2);
        c.due("o", x.owl(0, 0), 2);
        c.due("s", x.now(2), 1);
        c.due("one shout", x.now(7), 1);
        c.due("b knows", x.bed(1, 4), 2);
        c.dueBook(x, "hour 1;let t;hour 1;", 1, 1);
        c.dueTold(x, 21, 1, 3, 3);
        c.due("lived as far as that", x.now(0), 3);
        c.dueBook(x, "hush s;hour 1;", 1, 0);
        c.dueTold(x, 11, 0, 3, 3);
        c.due("no line was lived", x.now(0), 3);
        c.due("two books", x.undo(), 1);
        c.due("behind the first", x.now(0), 2);
        c.due("undone", x.undo(), 0);
        c.due("all of it", x.now(0) + x.now(2) + x.now(7) + x.owl(0, 0), 0);
        c.dueBook(x, "shout 3 1 30;", 1, -1);
        c.due("b looks north, to that cell", x.owl(1, 4), 3);
        c.due("o looks east", x.owl(0, 4), 0);
        c.due("undone", x.undo(), 0);
        c.dueBook(x, "hour 60;hour 1;let s;", 1, 2);
        c.due("lived", x.now(0), 61);
        c.dueBook(x, "hush q;", 1, -7);
        c.due("a fault: nothing lived", x.now(0), 61);
        c.dueTold(x, 21, 2, 61, 0);
    }

    private static void dueWrong(OwlsLent x, String text, int line, int why) {
        c.dueBook(x, text, 0, line);
        c.due("told(0) of '" + text + "'", x.told(0), why);
    }

    private static void wrongLines() {
        OwlsLent x = Checks.houseOf(HOUSE);
        dueWrong(x, "lend o a;", 0, 1);
        dueWrong(x, "lend o b;", 0, 2);
        dueWrong(x, "lend o e;lend p a;lend o a;", 2, 2);
        dueWrong(x, "hush s;hush s;", 1, 11);
        dueWrong(x, "let s;", 0, 21);
        dueWrong(x, "hush s;let s;let s;", 2, 21);
        dueWrong(x, "shout 0 0 1;shout 0 0 1;", 1, 31);
        dueWrong(x, "shout 0 0 1;hour 1;shout 0 0 1;", -1, 0);
        dueWrong(x, "shout 4 0 1;", 0, 39);
        dueWrong(x, "shout 0 3 1;", 0, 39);
        dueWrong(x, "shout 8 8 30;", 0, 39);
        dueWrong(x, "shout 3 2 30;", -1, 0);
        dueWrong(x, "shout 0 0 1;shout 8 8 1;", 1, 39);
        x.shout(0, 0, 1);
        dueWrong(x, "shout 0 0 1;", 0, 31);
        dueWrong(x, "shout 3 2 1;", 0, 31);
        dueWrong(x, "shout 4 2 1;", 0, 39);
        dueWrong(x, "shout 3 3 1;", 0, 39);
        c.due("the book's shouts are not lived", x.now(7), 1);
        c.dueBook(x, "hush s;shout 8 0 1;", 1, 1);
        c.dueTold(x, 39, 1, 0, 3);
        c.due("the line ahead of it is", x.now(2), 1);
    }

    private static void hoursLeft() {
        OwlsLent x = Checks.houseOf(HOUSE);
        for (int i = 0; i < 6; i++) {
            x.hours(60);
        }
        dueWrong(x, "hour 41;", 0, 41);
        dueWrong(x, "hour 40;", -1, 0);
        dueWrong(x, "hour 40;hush s;hour 1;", 2, 41);
        c.dueTold(x, 41, 2, 400, 0);
        c.dueBook(x, "hour 39;hour 2;", 1, 1);
        c.due("39 went", x.now(0), 399);
    }

    private static void toldStays() {
        OwlsLent x = Checks.houseOf(HOUSE);
        c.dueBook(x, "hush s;hour 3;hush s;", 0, 2);
        c.dueTold(x, 11, 2, 3, 3);
        Checks.put(x, "lend");
        x.book(0);
        c.dueTold(x, 11, 2, 3, 3);
        x.book(7);
        Checks.put(x, "");
        x.house();
        c.dueTold(x, 11, 2, 3, 3);
    }

    private static void sentenceFaults() {
        OwlsLent x = Checks.houseOf(HOUSE);
        c.due("no sentence", x.said(-1), -1);
        c.due("no sentence: the first", x.said(0), -1);
        c.dueSentence(x, "", -1, 1);
        c.dueSentence(x, "told told", -6, 1);
        c.dueSentence(x, "told;", -5, 1);
        c.dueSentence(x, "and", -1, 1);
        c.dueSentence(x, "told and", -9, 1);
        c.dueSentence(x, "told or or", -9, 1);
        c.dueSentence(x, "not", -4, 1);
        c.dueSentence(x, "(told", -6, 1);
        c.dueSentence(x, "told)", -5, 1);
        c.dueSentence(x, "()", -2, 1);
        c.dueSentence(x, "looks here", -7, 1);
        c.dueSentence(x, "looks bell", -7, 1);
        c.dueSentence(x, "hears east", -7, 1);
        c.dueSentence(x, "by a", -4, 3);
        c.dueSentence(x, "by q", -4, 3);
        c.dueSentence(x, "by by", -4, 1);
        c.dueSentence(x, "by 1", -4, 1);
        c.dueSentence(x, "knows 1", -7, 1);
        c.dueSentence(x, "knows ( 1", -7, 1);
        c.dueSentence(x, "knows <", -8, 1);
        c.dueSentence(x, "knows < 1000", -9, 1);
        c.dueSentence(x, "knows < = 1", -9, 1);
        c.dueSentence(x, "a", -1, 1);
        c.dueSentence(x, "blind.", -6, 1);
        c.due("no sentence still", x.said(-1), -1);
        c.dueSentence(x, "missed<999", 1, 0);
        c.dueSentence(x, "number=000", 1, 0);
        c.dueSentence(x, "number<", -8, 1);
        c.due("the sentence stays", x.said(-1), 1);
    }

    private static void sentenceBounds() {
        OwlsLent x = Checks.houseOf(HOUSE);
        c.dueSentence(x, "told" + " or told".repeat(19), 20, 0);
        c.dueSentence(x, "told" + " or told".repeat(20), -161, 4);
        c.dueSentence(x, "told" + " and told".repeat(19), 20, 0);
        c.dueSentence(x, "told" + " and told".repeat(20), -181, 4);
        c.dueSentence(x, "told" + " and (told)".repeat(9) + " or blind", 20, 0);
        c.dueSentence(x, "told" + " and (told)".repeat(9) + " or (blind)", -109, 4);
        c.dueSentence(x, "told" + " and (told)".repeat(9) + " or blind and not", -118, 4);
        c.dueSentence(x, "not ".repeat(7) + "told", 8, 0);
        c.dueSentence(x, "not ".repeat(8) + "told", -33, 4);
        c.dueSentence(x, "not ".repeat(9) + "told", -33, 4);
        c.dueSentence(x, "(".repeat(7) + "told" + ")".repeat(7), 8, 0);
        c.dueSentence(x, "(".repeat(8) + "told" + ")".repeat(8), -9, 4);
        c.dueSentence(x, "(".repeat(8) + "a", -9, 1);
        c.dueSentence(x, "(not ".repeat(4), -21, 1);
        c.dueSentence(x, "(not ".repeat(4) + "told", -21, 4);
        c.dueSentence(x, "((told) and (told)) and ((told))", 8, 0);
        c.dueSentence(x, "told" + " ".repeat(196), 1, 0);
        c.dueSentence(x, "told" + " ".repeat(197), -201, 1);
        c.dueSentence(x, " ".repeat(199) + "zz", -200, 1);
        c.dueSentence(x, "by" + " ".repeat(197) + "oo", -200, 3);
        c.dueSentence(x, "by" + " ".repeat(198) + "o", -201, 1);
    }

    private static void ones() {
        OwlsLent x = Checks.houseOf(HOUSE);
        // a: o looks here at s; b: p looks at t, 2 loud there (the like far s is 1); e: nobody
        c.dueSaid(x, "blind", 2);
        c.dueSaid(x, "told", 0, 1);
        c.dueSaid(x, "hears mouse", 0);
        c.dueSaid(x, "hears road", 1);
        c.dueSaid(x, "hears bell");
        c.dueSaid(x, "looks west", 1);
        c.dueSaid(x, "looks east");
        c.dueSaid(x, "by o", 0);
        c.dueSaid(x, "by p", 1);
        c.dueSaid(x, "number < 1", 0);
        c.dueSaid(x, "number = 1", 1);
        c.dueSaid(x, "number > 1", 2);
        c.dueSaid(x, "number > 0", 1, 2);
        c.dueSaid(x, "not blind", 0, 1);
        c.dueSaid(x, "not not blind", 2);
        c.dueSaid(x, "(blind)", 2);
        c.dueSaid(x, "knows = 0", 0, 1, 2);
        x.lend(0, 2);
        c.dueSaid(x, "blind", 0);
        c.dueSaid(x, "by o", 2);
        x.shout(3, 1, 30);
        c.dueSaid(x, "hears voice", 1, 2);
        c.dueSaid(x, "looks north", 1);
        c.dueSaid(x, "looks south", 2);
        // a misses s, t and the shout (30 - 4); b misses nothing, e nothing but the shout is loud there
        x.hours(1);
        c.dueSaid(x, "knows = 1", 1, 2);
        c.dueSaid(x, "missed = 3", 0);
        c.dueSaid(x, "missed > 2", 0);
        c.dueSaid(x, "missed < 1", 1, 2);
        c.dueSaid(x, "knows < 1", 0);
        c.dueSaid(x, "knows > 0", 1, 2);
    }

    private static void binding() {
        OwlsLent x = Checks.houseOf(HOUSE);
        c.dueSaid(x, "number = 0 or number = 1 and blind", 0);
        c.dueSaid(x, "(number = 0 or number = 1) and blind");
        c.dueSaid(x, "number = 1 and told or number = 2 and blind", 1, 2);
        c.dueSaid(x, "not number = 1 and told", 0);
        c.dueSaid(x, "not (number = 1 and told)", 0, 2);
        c.dueSaid(x, "not number = 1 or number = 1", 0, 1, 2);
        c.dueSaid(x, "blind and told or by o or not told", 0, 2);
    }

    private static void saidNow() {
        OwlsLent x = Checks.houseOf(HOUSE);
        c.dueSaid(x, "told", 0, 1);
        c.due("said(-2)", x.said(-2), -1);
        c.due("said(MAX)", x.said(Integer.MAX_VALUE), -1);
        c.due("said(MIN)", x.said(Integer.MIN_VALUE), -1);
        x.hush(1);
        c.due("p sleeps", x.said(-1), 1);
        x.hours(6);
        c.due("shut", x.said(-1), 0);
        c.due("none of them", x.said(0), -1);
        Checks.put(x, HOUSE);
        x.house();
        c.due("a new house has none", x.said(-1), -1);
        c.dueSentence(x, "blind", 1, 0);
        Checks.put(x, "bed");
        x.house();
        c.due("a house with a fault leaves it", x.said(-1), 1);
    }
}

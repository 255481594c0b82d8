import java.util.NoSuchElementException;
import java.util.Random;

/** Any numbers and any bytes, in any order: no call throws but bed(), owl() and loud(), and those what is told. */
public final class WildTest {
    private static final String HOUSE = "house 9 9;bed a 0 0;bed b 8 8;bed d 4 4;bed e 8 0;bed f 0 8;bed g 4 0;"
        + "owl o a 1;owl p b 2;owl q d 3;owl r e 1;owl s f 1;owl t g 1;sound ha mouse 1 1 30 0 23;"
        + "sound hb voice 2 2 30 0 23;sound hc road 3 3 30 0 23;sound hd bell 4 4 30 0 23;sound he mouse 5 5 30 0 23;"
        + "sound hf voice 6 6 30 0 23;sound hg road 7 7 30 0 23;sound hh bell 8 8 30 0 23;";
    private static final int[] EDGES = {Integer.MIN_VALUE, Integer.MIN_VALUE + 1, -1000, -2, -1, 0, 1, 2, 3, 4, 5, 6, 7, 8,
        9, 12, 30, 31, 32, 60, 61, 63, 64, 400, 939, 940, 941, Integer.MAX_VALUE - 1, Integer.MAX_VALUE};
    private static final Checks c = new Checks("WildTest");

    public static void main(String[] args) {
        for (int seed = 1; seed <= 200; seed++) {
            Random random = new Random(seed);
            OwlsLent x = new OwlsLent();
            int calls = 0;
            if (seed % 4 > 0) {
                Checks.put(x, HOUSE);
                c.due("house()", x.house(), 21);
                calls = 3 + (HOUSE.length() + 19) / 20;
            }
            String threw = "";
            // a tape that is put is five calls at most; what is answered behind 512 calls is free
            for (; calls <= 512 - 5 && threw.isEmpty(); calls += 1) {
                int which = random.nextInt(43);
                calls += which == 42 ? 4 : 0;
                threw = call(x, which, random);
            }
            c.due("seed " + seed + " threw '" + threw + "'", threw.length(), 0);
        }
        c.end();
    }

    private static int any(Random random) {
        int n = random.nextInt(10);
        return n == 0 ? random.nextInt() : n < 4 ? EDGES[random.nextInt(EDGES.length)] : random.nextInt(9);
    }

    private static String call(OwlsLent x, int which, Random random) {
        int a = any(random);
        int b = any(random);
        int d = any(random);
        try {
            made(x, which, a, b, d);
            return "";
        } catch (NoSuchElementException e) {
            return which <= 2 ? "" : "call " + which + " " + a + " " + b + " " + d + ": " + e;
        } catch (RuntimeException e) {
            return "call " + which + " " + a + " " + b + " " + d + ": " + e;
        }
    }

    private static void made(OwlsLent x, int which, int a, int b, int d) {
        switch (which) {
            case 0 -> x.bed(a, b);
            case 1 -> x.owl(a, b);
            case 2 -> x.loud(a, b);
            case 3 -> x.feed(a, b, d, a ^ b, b ^ d);
            case 4 -> x.end(a);
            case 5 -> x.house();
            case 6 -> x.fault();
            case 7 -> x.sound(a, b);
            case 8 -> x.now(a);
            case 9 -> x.lend(a, b);
            case 10 -> x.hush(a);
            case 11 -> x.let(a);
            case 12 -> x.shout(a, b, d);
            case 13 -> x.hours(a);
            case 14 -> x.undo();
            case 15 -> x.hears(a);
            case 16 -> x.would(a, b);
            case 17 -> x.when(a, b);
            case 18 -> x.spots();
            case 19 -> x.spotAt(a);
            case 20 -> x.next();
            case 21 -> x.keen();
            case 22 -> x.keenLeast();
            case 23 -> x.keenMost();
            case 24 -> x.best();
            case 25 -> x.bestAt(a);
            case 26 -> x.code(a);
            case 27 -> x.codeAt(a);
            case 28 -> x.duel(a, b, d);
            case 29 -> x.duelAt();
            case 30 -> x.worth(a, b);
            case 31 -> x.note(a);
            case 32 -> x.byteAt(a);
            case 33 -> x.drawn(a, b);
            case 34 -> x.odds(a, b, d);
            case 35 -> x.book(a);
            case 36 -> x.told(a);
            case 37 -> x.sentence();
            case 38 -> x.said(a);
            case 39 -> x.image(a);
            case 40 -> x.restore(a);
            case 41 -> x.count(a);
            default -> Checks.put(x, a == 0 ? "told" : "lend o b;hour 1;hush ha;");
        }
    }
}

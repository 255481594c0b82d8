import java.util.NoSuchElementException;
import java.util.Random;

/** Drawn runs of all the calls that an object is promised: class and model must answer alike. The seeds are fixed. */
public final class ModelTest {
    private static final String[] NAMES = {"ann", "bob", "cid", "dot", "eve", "fay", "old", "big", "sly", "wee", "hoo",
        "tawny", "a", "b", "c", "squeak", "cart", "chime", "abcdefg", "owl", "none"};
    /** What an object answers behind so many calls is free. */
    private static final int CALLS = 512;
    private static final int MOST_CALLS_OF_A_STEP = 60;

    private final Random random;
    private final OwlsLent x = new OwlsLent();
    private final Model m = new Model();
    private final StringBuilder log = new StringBuilder();
    private int wrong = 0;
    private int calls = 0;

    private ModelTest(long seed) {
        random = new Random(seed);
    }

    public static void main(String[] args) {
        int runs = args.length > 0 ? Integer.parseInt(args[0]) : 1500;
        int failed = 0;
        for (int seed = 1; seed <= runs && failed < 3; seed++) {
            ModelTest test = new ModelTest(seed);
            test.run();
            if (test.wrong > 0) {
                failed++;
                System.out.println("seed " + seed + ":\n" + test.log);
            }
        }
        System.out.println("ModelTest: " + runs + " runs, " + failed + " failed");
        if (failed > 0) {
            System.exit(1);
        }
    }

    private int of(int n) {
        return random.nextInt(n);
    }

    /** From low to high, and now and then a little outside. */
    private int around(int low, int high) {
        return of(12) == 0 ? (of(2) == 0 ? low - 1 - of(2) : high + 1 + of(2)) : low + of(high - low + 1);
    }

    private String name() {
        return NAMES[of(NAMES.length)];
    }

    private String pick(java.util.List<String> list) {
        return list.get(of(list.size()));
    }

    private String blanks() {
        return of(20) == 0 ? " \n " : " ";
    }

    private String houseText() {
        StringBuilder s = new StringBuilder();
        int wide = 6;
        int high = 6;
        boolean tame = of(3) > 0;
        if (of(3) > 0) {
            wide = 2 + of(8);
            high = 2 + of(8);
            s.append("house ").append(wide).append(blanks()).append(high).append(";");
        }
        java.util.List<String> beds = new java.util.ArrayList<>();
        java.util.List<String> owls = new java.util.ArrayList<>();
        int n = of(7) + (tame ? 0 : of(2));
        for (int i = 0; i < n; i++) {
            String name = tame ? NAMES[i] : name();
            beds.add(name);
            int x = tame ? i % wide : around(0, wide - 1);
            int y = tame ? Math.min(high - 1, i / wide + of(2) * 2) : around(0, high - 1);
            s.append("bed ").append(name).append(blanks()).append(Math.max(0, x)).append(' ').append(Math.max(0, y))
                .append(';');
        }
        for (int i = 0; i < n; i++) {
            if (of(5) == 0) {
                continue;
            }
            String name = tame ? NAMES[6 + i] : name();
            owls.add(name);
            s.append("owl ").append(name).append(' ').append(tame ? beds.get(i) : pick(beds)).append(' ')
                .append(tame ? 1 + of(8) : Math.max(0, around(1, 20))).append(';');
        }
        for (String o : owls) {
            if (of(3) == 0) {
                s.append("bad ").append(o).append(' ').append(pick(Model.SIDES)).append(';');
            }
            if (of(3) == 0) {
                s.append("deaf ").append(o).append(' ').append(pick(Model.KINDS)).append(';');
            }
        }
        int sounds = of(9) + (tame ? 0 : of(2));
        for (int i = 0; i < sounds; i++) {
            s.append("sound ").append(tame ? "s" + (char) ('a' + i) : name()).append(' ').append(pick(Model.KINDS))
                .append(' ').append(of(wide)).append(' ').append(of(high)).append(' ')
                .append(tame ? 3 + of(14) : Math.max(0, around(1, 30))).append(' ').append(of(24)).append(' ')
                .append(of(24)).append(';');
        }
        for (String b : beds) {
            if (of(2) == 0) {
                s.append("wants ").append(b).append(' ').append(pick(Model.KINDS)).append(';');
            }
        }
        if (of(2) == 0) {
            s.append("shut ").append(of(24)).append(' ').append(of(24)).append(";");
        }
        return s.toString();
    }

    private String known(int sort) {
        if (of(15) == 0) {
            return name();
        }
        if (sort == 0 && !m.now.beds.isEmpty()) {
            return m.now.beds.get(of(m.now.beds.size())).name();
        }
        if (sort == 1 && !m.now.owls.isEmpty()) {
            return m.now.owls.get(of(m.now.owls.size())).name();
        }
        if (sort == 2 && !m.now.sounds.isEmpty()) {
            return m.now.sounds.get(of(m.now.sounds.size())).name();
        }
        return name();
    }

    private String bookText() {
        StringBuilder s = new StringBuilder();
        int n = of(10) == 0 ? 38 + of(6) : of(7);
        for (int i = 0; i < n; i++) {
            switch (n > 30 ? 4 : of(5)) {
                case 0 -> s.append("lend ").append(known(1)).append(' ').append(known(0));
                case 1 -> s.append("hush ").append(known(2));
                case 2 -> s.append("let ").append(known(2));
                case 3 -> s.append("shout ").append(of(7)).append(' ').append(of(7)).append(' ').append(1 + of(30));
                default -> s.append("hour ").append(n > 30 ? 1 : Math.max(0, around(1, of(3) == 0 ? 60 : 5)));
            }
            s.append(';');
        }
        return s.toString();
    }

    private void cond(StringBuilder s, int deep) {
        int n = 1 + of(of(3) + 1);
        for (int i = 0; i < n; i++) {
            if (i > 0) {
                s.append(of(2) == 0 ? " or " : " and ");
            }
            switch (of(deep > 0 ? 10 : 7)) {
                case 0 -> s.append("blind");
                case 1 -> s.append("told");
                case 2 -> s.append("looks ").append(pick(Model.SIDES));
                case 3 -> s.append("by ").append(known(1));
                case 4 -> s.append("hears ").append(pick(Model.KINDS));
                case 5 -> s.append("number").append("<=>".charAt(of(3))).append(of(6));
                case 6 -> s.append(of(2) == 0 ? "knows" : "missed").append("<=>".charAt(of(3))).append(of(20));
                case 7 -> {
                    s.append("not ");
                    cond(s, deep - 1);
                }
                default -> {
                    s.append('(');
                    cond(s, deep - 1);
                    s.append(')');
                }
            }
        }
    }

    private String sentenceText() {
        StringBuilder s = new StringBuilder();
        if (of(8) == 0) {
            int deep = 6 + of(4);
            s.append((of(2) == 0 ? "not " : "( ").repeat(deep)).append("told");
            return s.append(s.charAt(0) == '(' ? ")".repeat(deep) : "").toString();
        }
        cond(s, of(10));
        return s.toString();
    }

    private String spoil(String text, int most) {
        StringBuilder s = new StringBuilder(text);
        if (of(4) == 0 && s.length() > 0) {
            int at = of(s.length());
            String strange = "az09;<=>(). \nA-" + (char) 200 + (char) 0;
            char c = strange.charAt(of(strange.length()));
            switch (of(4)) {
                case 0 -> s.setCharAt(at, c);
                case 1 -> s.insert(at, c);
                case 2 -> s.deleteCharAt(at);
                default -> s.setLength(at);
            }
        }
        if (of(10) == 0) {
            int more = Math.max(0, most + of(9) - 4 - s.length());
            s.insert(of(2) == 0 ? s.length() : s.indexOf(";") + 1, (of(2) == 0 ? " " : "\n").repeat(more));
        }
        if (s.length() > 940) {
            s.setLength(940);
        }
        return s.toString();
    }

    private void put(String text) {
        Checks.put(x, text);
        calls += 2 + (text.length() + 19) / 20;
        m.tape = text;
        log.append("tape: ").append(text).append('\n');
    }

    private void putBytes(int count, int first, int low, int high) {
        StringBuilder s = new StringBuilder();
        for (int i = 0; i < count; i++) {
            s.append((char) (i == 0 && first > 0 ? first : Math.max(0, around(low, high))));
        }
        put(s.toString());
    }

    /** For keen(): any LOUD, mostly so far off that it is 0 to 23 loud, for else hardly a number is left or lost. */
    private String triples(int count) {
        StringBuilder s = new StringBuilder();
        for (int i = 0; i < count; i++) {
            int full = of(256);
            int far = of(6) == 0 ? of(256) : Math.max(0, full - of(24));
            s.append((char) full).append((char) far).append((char) (of(20) == 0 ? 2 + of(254) : of(2)));
        }
        return s.toString();
    }

    private void same(String call, Checks.Call mine, Checks.Call its) {
        if (wrong > 0) {
            return;
        }
        calls++;
        long got = answer(mine);
        long want = answer(its);
        log.append(call).append(" -> ").append(want).append('\n');
        if (got != want) {
            wrong++;
            log.append("answered ").append(got).append('\n');
        }
    }

    private static long answer(Checks.Call call) {
        try {
            return call.run();
        } catch (NoSuchElementException e) {
            return Long.MIN_VALUE;
        }
    }

    private void run() {
        put(houseText());
        same("house()", x::house, m::house);
        while (calls <= CALLS - MOST_CALLS_OF_A_STEP && wrong == 0) {
            step();
        }
        while (calls < CALLS && wrong == 0) {
            int what = of(8);
            same("now " + what, () -> x.now(what), () -> m.now(what));
        }
    }

    private void step() {
        int o = around(0, Math.max(0, m.now.owls.size() - 1));
        int b = around(0, Math.max(0, m.now.beds.size() - 1));
        int s = around(0, Math.max(0, m.now.sounds.size() - 1));
        int what = around(0, 7);
        int seed = random.nextInt();
        switch (of(44)) {
            case 0 -> {
                if (of(3) == 0) {
                    put(spoil(houseText(), 900));
                    same("house()", x::house, m::house);
                    same("fault()", x::fault, () -> m.fault);
                }
            }
            case 1 -> {
                int n = around(0, 60);
                same("end(" + n + ")", () -> x.end(n) ? 1 : 0, () -> m.end(n) ? 1 : 0);
                same("feed", () -> x.feed(seed, n, s, b, o), () -> m.feed(seed, n, s, b, o));
            }
            case 2 -> same("count " + what, () -> x.count(what), () -> m.count(what));
            case 3, 4 -> same("bed " + b + " " + what, () -> x.bed(b, what), () -> m.bed(b, what));
            case 5, 6 -> same("owl " + o + " " + what, () -> x.owl(o, what), () -> m.owl(o, what));
            case 7 -> same("sound " + s + " " + what, () -> x.sound(s, what), () -> m.sound(s, what));
            case 8, 9 -> same("now " + what, () -> x.now(what), () -> m.now(what));
            case 10, 11 -> same("lend " + o + " " + b, () -> x.lend(o, b), () -> m.lend(o, b));
            case 12 -> same("hush " + s, () -> x.hush(s), () -> m.hush(s));
            case 13, 14 -> same("let " + s, () -> x.let(s), () -> m.let(s));
            case 15, 16 -> {
                int cx = around(0, m.now.wide - 1);
                int cy = around(0, m.now.high - 1);
                int loud = around(1, 30);
                same("shout " + cx + " " + cy + " " + loud, () -> x.shout(cx, cy, loud), () -> m.shout(cx, cy, loud));
            }
            case 17, 18 -> {
                int n = of(5) == 0 ? around(1, 60) : 1 + of(4);
                same("hours " + n, () -> x.hours(n), () -> m.hours(n));
            }
            case 19 -> same("undo", x::undo, m::undo);
            case 20 -> same("hears " + o, () -> x.hears(o), () -> m.hears(o));
            case 21 -> same("would " + o + " " + b, () -> x.would(o, b), () -> m.would(o, b));
            case 22 -> {
                int side = around(0, 4);
                same("when " + o + " " + side, () -> x.when(o, side), () -> m.when(o, side));
            }
            case 23 -> same("loud " + s + " " + b, () -> x.loud(s, b), () -> m.loud(s, b));
            case 24, 25 -> stepSpots();
            case 26 -> {
                if (of(4) == 0) {
                    putBytes(of(6) == 0 ? of(24) : 3 * (1 + of(3)), 0, 0, 12);
                } else {
                    put(triples(1 + of(3)));
                }
                same("keen", x::keen, m::keen);
                same("keenLeast", x::keenLeast, () -> m.least);
                same("keenMost", x::keenMost, () -> m.most);
            }
            case 27 -> {
                if (of(3) == 0) {
                    same("best", x::best, m::best);
                }
                for (int i = -1; i < 7; i++) {
                    int k = i;
                    same("bestAt " + k, () -> x.bestAt(k), () -> m.bestAt(k));
                }
            }
            case 28, 29 -> {
                putBytes(of(10) == 0 ? of(10) : 1 + of(2), 0, 0, 4);
                same("code " + o, () -> x.code(o), () -> m.code(o));
                for (int i = -1; i < 9; i++) {
                    int k = i;
                    same("codeAt " + k, () -> x.codeAt(k), () -> m.codeAt(k));
                }
            }
            case 30, 31 -> {
                int side = around(0, 4);
                int n = of(6) == 0 ? around(1, 4) : 1 + of(3);
                same("duel " + o + " " + side + " " + n, () -> x.duel(o, side, n), () -> m.duel(o, side, n));
                same("duelAt", x::duelAt, () -> m.duelAt);
            }
            case 32 -> {
                int n = around(1, 60);
                same("worth " + b + " " + n, () -> x.worth(b, n), () -> m.worth(b, n));
            }
            case 33 -> {
                same("note " + b, () -> x.note(b), () -> m.note(b));
                for (int k : new int[] {-1, of(8), of(32), m.note.length() - 1, m.note.length()}) {
                    same("byteAt " + k, () -> x.byteAt(k), () -> m.byteAt(k));
                }
            }
            case 34 -> {
                int n = of(4) == 0 ? around(1, 60) : 1 + of(5);
                same("drawn " + n + " " + seed, () -> x.drawn(n, seed), () -> m.drawn(n, seed));
            }
            case 35 -> {
                int n = around(1, 30);
                same("odds " + b + " " + n + " " + seed, () -> x.odds(b, n, seed), () -> m.odds(b, n, seed));
            }
            case 36, 37 -> {
                int lives = around(0, 1);
                put(spoil(bookText(), 400));
                same("book " + lives, () -> x.book(lives), () -> m.book(lives));
                same("fault", x::fault, () -> m.fault);
                for (int i = -1; i < 5; i++) {
                    int k = i;
                    same("told " + k, () -> x.told(k), () -> m.told(k));
                }
            }
            case 38, 39 -> {
                put(spoil(sentenceText(), 200));
                same("sentence", x::sentence, m::sentence);
                same("fault", x::fault, () -> m.fault);
                for (int i = -2; i < 7; i++) {
                    int k = i;
                    same("said " + k, () -> x.said(k), () -> m.said(k));
                }
            }
            case 40 -> same("said", () -> x.said(-1), () -> m.said(-1));
            case 41 -> {
                int k = around(0, 1);
                same("image " + k, () -> x.image(k) ? 1 : 0, () -> m.image(k) ? 1 : 0);
            }
            case 42 -> {
                int k = around(0, 1);
                if (of(4) == 0) {
                    same("restore " + k, () -> x.restore(k) ? 1 : 0, () -> m.restore(k) ? 1 : 0);
                }
            }
            default -> same("undo", x::undo, m::undo);
        }
    }

    private void stepSpots() {
        int pairs = of(15) == 0 ? of(8) : 1 + of(2);
        StringBuilder t = new StringBuilder().append((char) Math.max(0, around(1, of(2) == 0 ? 12 : 30)));
        for (int i = 0; i < pairs; i++) {
            int side = around(0, 4);
            t.append((char) Math.max(0, around(0, Math.max(0, m.now.owls.size() - 1))))
                .append((char) (of(5) == 0 ? 255 : Math.max(0, side)));
        }
        put(t.toString());
        same("spots", x::spots, m::spots);
        same("next", x::next, () -> m.next);
        for (int k : new int[] {-1, 0, of(81), of(9), m.spots.size() - 1, m.spots.size()}) {
            same("spotAt " + k, () -> x.spotAt(k), () -> m.spotAt(k));
        }
    }
}

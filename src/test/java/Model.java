import java.util.ArrayDeque;
import java.util.ArrayList;
import java.util.Arrays;
import java.util.Deque;
import java.util.HashSet;
import java.util.List;
import java.util.NoSuchElementException;
import java.util.Set;
import java.util.TreeSet;
import java.util.function.Predicate;

/** The document once more, in its slowest form: new objects everywhere, sets, and trees of conditions. */
final class Model {
    static final List<String> KINDS = List.of("mouse", "voice", "road", "bell");
    static final List<String> SIDES = List.of("east", "south", "west", "north");
    static final Set<String> TAKEN = new HashSet<>(Arrays.asList(("house bed owl bad deaf sound wants shut mouse voice "
        + "road bell east south west north lend hush let shout hour or and not blind told looks by hears knows missed "
        + "number").split(" ")));

    static final class Fault extends RuntimeException {
        private static final long serialVersionUID = 1L;
        final int kind;
        final int place;

        Fault(int kind, int place) {
            this.kind = kind;
            this.place = place;
        }
    }

    record Token(char kind, String text, int place) { }

    record Bed(String name, int x, int y) { }

    record Owl(String name, int bed, int from) { }

    record Sound(String name, int kind, int x, int y, int loud, int from, int till) { }

    /** House, state and sentence: copied whole. */
    static final class World {
        int wide = 6, high = 6, shutFrom = 6, shutTill = 17;
        List<Bed> beds = new ArrayList<>();
        List<Owl> owls = new ArrayList<>();
        List<Sound> sounds = new ArrayList<>();
        Integer[] wants = new Integer[6];
        Integer[] bad = new Integer[6];
        List<Set<Integer>> deaf = new ArrayList<>();
        int hour = 0, shouts = 0;
        Set<Integer> hushed = new TreeSet<>();
        Sound shout = null;
        List<Integer> sits = new ArrayList<>();
        int[] knows = new int[6], misses = new int[6];
        Predicate<Object[]> sentence = null;

        World copy() {
            World w = new World();
            w.wide = wide; w.high = high; w.shutFrom = shutFrom; w.shutTill = shutTill;
            w.beds = beds; w.owls = owls; w.sounds = sounds; w.wants = wants; w.bad = bad; w.deaf = deaf;
            w.hour = hour; w.shouts = shouts; w.hushed = new TreeSet<>(hushed); w.shout = shout;
            w.sits = new ArrayList<>(sits); w.knows = knows.clone(); w.misses = misses.clone();
            w.sentence = sentence;
            return w;
        }

        Sound source(int s) { return s < sounds.size() ? sounds.get(s) : shout; }

        static boolean in(int from, int till, int hour) {
            int h = hour % 24;
            for (int i = from; ; i = (i + 1) % 24) {
                if (i == h) return true;
                if (i == till) return false;
            }
        }

        boolean isShut(int h) { return in(shutFrom, shutTill, h); }

        Set<Integer> on(int h) {
            Set<Integer> set = new TreeSet<>();
            for (int s = 0; s < sounds.size(); s++) {
                if (!hushed.contains(s) && in(sounds.get(s).from, sounds.get(s).till, h)) set.add(s);
            }
            if (h == hour && shout != null) set.add(sounds.size());
            return set;
        }

        int loud(Sound s, int b) {
            return s.loud - Math.abs(s.x - beds.get(b).x) - Math.abs(s.y - beds.get(b).y);
        }

        int side(Sound s, int b) {
            int dx = s.x - beds.get(b).x, dy = s.y - beds.get(b).y;
            if (dx == 0 && dy == 0) return 4;
            if (Math.abs(dx) >= Math.abs(dy)) return dx > 0 ? 0 : 2;
            return dy > 0 ? 1 : 3;
        }

        boolean canHear(int o, int b, Sound s) {
            return !deaf.get(o).contains(s.kind) && !(bad[o] != null && bad[o] == side(s, b))
                && loud(s, b) >= owls.get(o).from;
        }

        Set<Integer> heard(int o, int b, Set<Integer> on) {
            Set<Integer> set = new TreeSet<>();
            for (int s : on) if (canHear(o, b, source(s))) set.add(s);
            return set;
        }

        int loudest(int b, Set<Integer> set) {
            int best = -1;
            for (int s : set) if (best < 0 || loud(source(s), b) > loud(source(best), b)) best = s;
            return best;
        }

        int look(int o, int b, int h) {
            return isShut(h) ? -1 : loudest(b, heard(o, b, on(h)));
        }

        int lookSide(int o, int b, int h) {
            int s = look(o, b, h);
            return s < 0 ? -1 : side(source(s), b);
        }

        int lend(int o, int b) {
            if (sits.get(o) == b) return 1;
            if (sits.contains(b)) return 2;
            sits.set(o, b);
            return 0;
        }

        int shoutAt(int x, int y, int loud) {
            if (shout != null) return 1;
            shout = new Sound("", 1, x, y, loud, 0, 23);
            shouts++;
            return 0;
        }

        void go() {
            Set<Integer> on = on(hour);
            for (int b = 0; b < beds.size(); b++) {
                int o = sits.indexOf(b);
                int look = o < 0 ? -1 : look(o, b, hour);
                if (look >= 0) knows[b]++;
                for (int s : on) if (s != look && loud(source(s), b) >= 5) misses[b]++;
            }
            hour++;
            shout = null;
        }

        int seed;

        int draw(int n) {
            seed = seed * 1103515245 + 12345;
            return (seed >>> 8) % n;
        }

        void goDrawn() {
            for (int s = 0; s < sounds.size(); s++) {
                if (draw(8) == 0 && !hushed.remove(s)) hushed.add(s);
            }
            if (draw(6) == 0 && shout == null) {
                int x = draw(wide);
                int y = draw(high);
                shoutAt(x, y, draw(30) + 1);
            }
            go();
        }

        int lookers() {
            int bits = 0;
            for (int o = 0; o < owls.size(); o++) if (look(o, sits.get(o), hour) >= 0) bits |= 1 << o;
            return bits;
        }
    }

    static int bits(Set<Integer> set) {
        int bits = 0;
        for (int s : set) bits |= 1 << s;
        return bits;
    }

    /** Tokens of a text; all readers throw a Fault. */
    final class Reader {
        final List<Token> tokens = new ArrayList<>();
        final World w;
        int i = 0;
        int ones = 0;

        Reader(String text, int most, World w) {
            this.w = w;
            int p = 0;
            while (true) {
                while (p < text.length() && " \n".indexOf(text.charAt(p)) >= 0) p++;
                if (p >= most && text.length() > most) { tokens.add(new Token('!', "", most)); return; }
                if (p >= text.length()) { tokens.add(new Token('$', "", text.length())); return; }
                int q = p;
                while (q < text.length() && String.valueOf(text.charAt(q)).matches("[a-z0-9]")) q++;
                if (q == p) q++;
                String t = text.substring(p, q);
                char kind = t.matches("[a-z]{1,7}") ? 'w' : t.matches("[0-9]{1,3}") ? 'n'
                    : t.matches("[;<=>().]") ? t.charAt(0) : '!';
                tokens.add(new Token(kind, t, p));
                if (kind == '!') return;
                p = q;
            }
        }

        Token at() { return tokens.get(i); }

        boolean ends() { return at().kind == '$'; }

        Token take(char kind) {
            if (at().kind != kind) throw new Fault(1, at().place);
            return tokens.get(i++);
        }

        int num(int lo, int hi) {
            Token t = take('n');
            int v = Integer.parseInt(t.text);
            if (v < lo || v > hi) throw new Fault(2, t.place);
            return v;
        }

        int word(List<String> of) {
            Token t = take('w');
            if (!of.contains(t.text)) throw new Fault(1, t.place);
            return of.indexOf(t.text);
        }

        Token name() {
            Token t = take('w');
            if (TAKEN.contains(t.text)) throw new Fault(1, t.place);
            return t;
        }

        String fresh() {
            Token t = name();
            boolean there = w.beds.stream().anyMatch(b -> b.name.equals(t.text))
                || w.owls.stream().anyMatch(b -> b.name.equals(t.text))
                || w.sounds.stream().anyMatch(b -> b.name.equals(t.text));
            if (there) throw new Fault(3, t.place);
            return t.text;
        }

        int bed() {
            Token t = name();
            for (int b = 0; b < w.beds.size(); b++) if (w.beds.get(b).name.equals(t.text)) return b;
            throw new Fault(3, t.place);
        }

        int owl() {
            Token t = name();
            for (int b = 0; b < w.owls.size(); b++) if (w.owls.get(b).name.equals(t.text)) return b;
            throw new Fault(3, t.place);
        }

        int sound() {
            Token t = name();
            for (int b = 0; b < w.sounds.size(); b++) if (w.sounds.get(b).name.equals(t.text)) return b;
            throw new Fault(3, t.place);
        }

        void fault(boolean is, int kind, int back) {
            if (is) throw new Fault(kind, tokens.get(i - back).place);
        }

        int house() {
            int lines = 0;
            boolean sized = false, shut = false;
            for (; !ends(); lines++) {
                String line = take('w').text;
                switch (line) {
                    case "house" -> {
                        fault(sized || !w.beds.isEmpty() || !w.sounds.isEmpty(), 3, 1);
                        sized = true;
                        w.wide = num(2, 9);
                        w.high = num(2, 9);
                    }
                    case "bed" -> {
                        fault(w.beds.size() == 6, 4, 1);
                        Bed b = new Bed(fresh(), num(0, w.wide - 1), num(0, w.high - 1));
                        fault(w.beds.stream().anyMatch(c -> c.x == b.x && c.y == b.y), 3, 1);
                        w.beds.add(b);
                    }
                    case "owl" -> {
                        fault(w.owls.size() == 6, 4, 1);
                        String name = fresh();
                        int b = bed();
                        fault(w.sits.contains(b), 3, 1);
                        w.owls.add(new Owl(name, b, num(1, 20)));
                        w.sits.add(b);
                        w.deaf.add(new HashSet<>());
                    }
                    case "bad" -> {
                        int o = owl();
                        fault(w.bad[o] != null, 3, 1);
                        w.bad[o] = word(SIDES);
                    }
                    case "deaf" -> {
                        int o = owl();
                        fault(!w.deaf.get(o).add(word(KINDS)), 3, 1);
                    }
                    case "sound" -> {
                        fault(w.sounds.size() == 8, 4, 1);
                        w.sounds.add(new Sound(fresh(), word(KINDS), num(0, w.wide - 1), num(0, w.high - 1),
                            num(1, 30), num(0, 23), num(0, 23)));
                    }
                    case "wants" -> {
                        int b = bed();
                        fault(w.wants[b] != null, 3, 1);
                        w.wants[b] = word(KINDS);
                    }
                    case "shut" -> {
                        fault(shut, 3, 1);
                        shut = true;
                        w.shutFrom = num(0, 23);
                        w.shutTill = num(0, 23);
                    }
                    default -> fault(true, 1, 1);
                }
                take(';');
            }
            return lines;
        }

        List<int[]> book() {
            List<int[]> lines = new ArrayList<>();
            while (!ends()) {
                int kind = word(List.of("lend", "hush", "let", "shout", "hour"));
                fault(lines.size() == 40, 4, 1);
                switch (kind) {
                    case 0 -> lines.add(new int[] {0, owl(), bed()});
                    case 1, 2 -> lines.add(new int[] {kind, sound()});
                    case 3 -> lines.add(new int[] {3, num(0, 8), num(0, 8), num(1, 30)});
                    default -> lines.add(new int[] {4, num(1, 60)});
                }
                take(';');
            }
            return lines;
        }

        Predicate<Object[]> cond(int within) {
            Predicate<Object[]> p = all(within);
            while (at().text.equals("or")) {
                i++;
                p = p.or(all(within));
            }
            return p;
        }

        Predicate<Object[]> all(int within) {
            Predicate<Object[]> p = one(within);
            while (at().text.equals("and")) {
                i++;
                p = p.and(one(within));
            }
            return p;
        }

        Predicate<Object[]> one(int within) {
            Token t = at();
            boolean can = t.kind == '(' || t.kind == 'w' && List.of("not", "blind", "told", "looks", "by", "hears",
                "knows", "missed", "number").contains(t.text);
            if (!can) throw new Fault(1, t.place);
            if (ones == 20 || within == 9) throw new Fault(4, t.place);
            ones++;
            i++;
            switch (t.text) {
                case "(": {
                    Predicate<Object[]> p = cond(within + 1);
                    take(')');
                    return p;
                }
                case "not":
                    return one(within + 1).negate();
                case "blind":
                    return a -> owlOf(a) < 0;
                case "told":
                    return a -> lookOf(a) >= 0;
                case "looks": {
                    int side = word(SIDES);
                    return a -> lookOf(a) >= 0 && ((World) a[0]).side(((World) a[0]).source(lookOf(a)), (int) a[1]) == side;
                }
                case "by": {
                    int o = owl();
                    return a -> owlOf(a) == o;
                }
                case "hears": {
                    int kind = word(KINDS);
                    return a -> lookOf(a) >= 0 && ((World) a[0]).source(lookOf(a)).kind == kind;
                }
                default: {
                    char sign = at().kind;
                    if ("<=>".indexOf(sign) < 0) throw new Fault(1, at().place);
                    i++;
                    int n = num(0, 999);
                    return a -> {
                        World v = (World) a[0];
                        int b = (int) a[1];
                        int is = t.text.equals("knows") ? v.knows[b] : t.text.equals("missed") ? v.misses[b] : b;
                        return Integer.compare(is, n) == "<=>".indexOf(sign) - 1;
                    };
                }
            }
        }
    }

    static int owlOf(Object[] a) { return ((World) a[0]).sits.indexOf(a[1]); }

    static int lookOf(Object[] a) {
        World w = (World) a[0];
        return owlOf(a) < 0 ? -1 : w.look(owlOf(a), (int) a[1], w.hour);
    }

    String tape = "";
    World now = new World();
    final Deque<World> past = new ArrayDeque<>();
    final World[] kept = new World[2];
    int fault = 0;
    int[] told = null;
    List<Integer> spots = List.of(), codes = List.of(), best = List.of();
    int next = -1, least = -1, most = -1, duelAt = -1;
    String note = "";

    int feed(int... numbers) {
        if (tape.length() > 920) return -1;
        StringBuilder sb = new StringBuilder(tape);
        for (int n : numbers) for (int i = 3; i >= 0; i--) sb.append((char) (n >> 8 * i & 255));
        tape = sb.toString();
        return tape.length();
    }

    boolean end(int n) {
        if (n < 0 || n > tape.length()) return false;
        tape = tape.substring(0, n);
        return true;
    }

    String takeTape() {
        String t = tape;
        tape = "";
        return t;
    }

    int house() {
        World w = new World();
        try {
            int lines = new Reader(takeTape(), 900, w).house();
            now = w;
            past.clear();
            fault = 0;
            return lines;
        } catch (Fault f) {
            fault = f.kind;
            return -1 - f.place;
        }
    }

    boolean isBed(int b) { return b >= 0 && b < now.beds.size(); }

    boolean isOwl(int o) { return o >= 0 && o < now.owls.size(); }

    boolean isSound(int s) { return s >= 0 && s < now.sounds.size(); }

    int bed(int b, int what) {
        if (!isBed(b) || what < 0 || what > 5) throw new NoSuchElementException();
        Bed bed = now.beds.get(b);
        Integer w = now.wants[b];
        return new int[] {bed.x, bed.y, now.sits.indexOf(b), w == null ? -1 : w, now.knows[b], now.misses[b]}[what];
    }

    int owl(int o, int what) {
        if (!isOwl(o) || what < 0 || what > 5) throw new NoSuchElementException();
        int b = now.sits.get(o);
        return new int[] {b, now.owls.get(o).from, now.bad[o] == null ? -1 : now.bad[o], bits(now.deaf.get(o)),
            now.lookSide(o, b, now.hour), now.look(o, b, now.hour)}[what];
    }

    int sound(int s, int what) {
        if (!isSound(s) || what < 0 || what > 5) return -1;
        Sound t = now.sounds.get(s);
        return new int[] {t.kind, t.x, t.y, t.loud, now.on(now.hour).contains(s) ? 1 : 0,
            now.hushed.contains(s) ? 1 : 0}[what];
    }

    int now(int what) {
        if (what < 0 || what > 7) return -1;
        return new int[] {now.hour, bits(now.on(now.hour)), bits(now.hushed), now.lookers(),
            now.isShut(now.hour) ? 1 : 0, Arrays.stream(now.knows).sum(), Arrays.stream(now.misses).sum(),
            now.shouts}[what];
    }

    void keep(World before) {
        past.addLast(before);
        if (past.size() > 8) past.removeFirst();
    }

    int did(World before, int why) {
        if (why == 0) keep(before);
        return why;
    }

    int lend(int o, int b) {
        if (!isOwl(o) || !isBed(b)) return -1;
        return did(now.copy(), now.lend(o, b));
    }

    int hush(int s) {
        if (!isSound(s)) return -1;
        return did(now.copy(), now.hushed.add(s) ? 0 : 1);
    }

    int let(int s) {
        if (!isSound(s)) return -1;
        return did(now.copy(), now.hushed.remove(s) ? 0 : 1);
    }

    int shout(int x, int y, int loud) {
        if (x < 0 || y < 0 || x >= now.wide || y >= now.high || loud < 1 || loud > 30) return -1;
        return did(now.copy(), now.shoutAt(x, y, loud));
    }

    int hours(int n) {
        if (n < 1 || n > 60) return -1;
        World before = now.copy();
        int went = 0;
        while (went < n && now.hour < 400) {
            now.go();
            went++;
        }
        if (went > 0) keep(before);
        return went;
    }

    int drawn(int n, int seed) {
        if (n < 1 || n > 60) return -1;
        World before = now.copy();
        now.seed = seed;
        int went = 0;
        while (went < n && now.hour < 400) {
            now.goDrawn();
            went++;
        }
        if (went > 0) keep(before);
        return went;
    }

    int undo() {
        if (past.isEmpty()) return -1;
        Predicate<Object[]> stays = now.sentence;
        now = past.removeLast();
        now.sentence = stays;
        return past.size();
    }

    int hears(int o) {
        if (!isOwl(o)) return -1;
        int b = now.sits.get(o);
        return now.isShut(now.hour) ? 0 : bits(now.heard(o, b, now.on(now.hour)));
    }

    int would(int o, int b) { return isOwl(o) && isBed(b) ? now.lookSide(o, b, now.hour) : -1; }

    int when(int o, int side) {
        if (!isOwl(o) || side < 0 || side > 4) return -1;
        World w = now.copy();
        for (int h = 0; h <= 48; h++) {
            if (w.lookSide(o, w.sits.get(o), w.hour) == side) return h;
            if (w.hour == 400) return -1;
            w.go();
        }
        return -1;
    }

    int loud(int s, int b) {
        if (!isSound(s) || !isBed(b)) throw new NoSuchElementException();
        return now.loud(now.sounds.get(s), b);
    }

    int lookAlone(int o, Sound s) {
        int b = now.sits.get(o);
        return now.canHear(o, b, s) ? now.side(s, b) : -1;
    }

    int spots() {
        String t = takeTape();
        if (t.length() % 2 == 0 || t.length() < 3 || t.length() > 13) return -1;
        int loud = t.charAt(0);
        if (loud < 1 || loud > 30) return -1;
        for (int i = 1; i < t.length(); i += 2) {
            if (!isOwl(t.charAt(i)) || t.charAt(i + 1) > 4 && t.charAt(i + 1) != 255) return -1;
        }
        List<Integer> list = new ArrayList<>();
        for (int c = 0; c < 81; c++) {
            if (c % 9 >= now.wide || c / 9 >= now.high) continue;
            Sound v = new Sound("", 1, c % 9, c / 9, loud, 0, 23);
            boolean ok = true;
            for (int i = 1; i < t.length(); i += 2) {
                int side = t.charAt(i + 1) == 255 ? -1 : t.charAt(i + 1);
                ok &= lookAlone(t.charAt(i), v) == side;
            }
            if (ok) list.add(c);
        }
        if (list.isEmpty()) return 0;
        spots = list;
        int best = 100;
        for (int o = 0; o < now.owls.size(); o++) {
            int worst = 0;
            for (int side = -1; side < 5; side++) {
                int n = 0;
                for (int c : list) if (lookAlone(o, new Sound("", 1, c % 9, c / 9, loud, 0, 23)) == side) n++;
                worst = Math.max(worst, n);
            }
            if (worst < best) {
                best = worst;
                next = o;
            }
        }
        return list.size();
    }

    static int in(List<Integer> list, int k) { return k >= 0 && k < list.size() ? list.get(k) : -1; }

    int spotAt(int k) { return in(spots, k); }

    int keen() {
        String t = takeTape();
        if (t.isEmpty() || t.length() > 18 || t.length() % 3 != 0) return -1;
        List<Integer> list = new ArrayList<>();
        for (int n = 1; n <= 20; n++) {
            boolean ok = true;
            for (int i = 0; i < t.length(); i += 3) {
                if (t.charAt(i + 2) > 1) return -1;
                ok &= (t.charAt(i) - t.charAt(i + 1) >= n) == (t.charAt(i + 2) == 1);
            }
            if (ok) list.add(n);
        }
        if (!list.isEmpty()) {
            least = list.get(0);
            most = list.get(list.size() - 1);
        }
        return list.size();
    }

    int bestSum;

    int best() {
        bestSum = -1;
        tryBest(new ArrayList<>());
        return bestSum;
    }

    void tryBest(List<Integer> beds) {
        if (beds.size() == now.owls.size()) {
            World w = now.copy();
            w.shout = null;
            int sum = 0;
            for (int h = w.hour; h < w.hour + 24; h++) {
                for (int o = 0; o < beds.size(); o++) {
                    int look = w.look(o, beds.get(o), h);
                    Integer wants = w.wants[beds.get(o)];
                    if (look >= 0 && wants != null && w.sounds.get(look).kind == wants) sum++;
                }
            }
            if (sum > bestSum) {
                bestSum = sum;
                best = new ArrayList<>(beds);
            }
            return;
        }
        for (int b = 0; b < now.beds.size(); b++) {
            if (beds.contains(b)) continue;
            beds.add(b);
            tryBest(beds);
            beds.remove(beds.size() - 1);
        }
    }

    int bestAt(int o) { return in(best, o); }

    int code(int o) {
        String t = takeTape();
        if (!isOwl(o) || t.isEmpty() || t.length() > 8 || t.chars().anyMatch(c -> c > 4)) return -1;
        List<Integer> list = new ArrayList<>();
        for (char c : t.toCharArray()) {
            int found = -1;
            for (int s = now.sounds.size() - 1; s >= 0; s--) if (lookAlone(o, now.sounds.get(s)) == c) found = s;
            if (found < 0) return -2 - list.size();
            list.add(found);
        }
        codes = list;
        return list.size();
    }

    int codeAt(int k) { return in(codes, k); }

    boolean wins(World w, int o, int side, int move, int n) {
        if (move == n) return w.lookSide(o, w.sits.get(o), w.hour) == side;
        boolean first = move % 2 == 0;
        boolean any = wins(w, o, side, move + 1, n) == first;
        for (int s = 0; s < w.sounds.size() && !any; s++) {
            if (w.hushed.contains(s)) continue;
            World v = w.copy();
            v.hushed.add(s);
            any = wins(v, o, side, move + 1, n) == first;
        }
        return any == first;
    }

    int duel(int o, int side, int n) {
        if (!isOwl(o) || side < 0 || side > 4 || n < 1 || n > 4) return -1;
        duelAt = -1;
        if (!wins(now, o, side, 0, n)) return 0;
        if (wins(now, o, side, 1, n)) return 1;
        for (int s = now.sounds.size() - 1; s >= 0; s--) {
            if (now.hushed.contains(s)) continue;
            World v = now.copy();
            v.hushed.add(s);
            if (wins(v, o, side, 1, n)) duelAt = s;
        }
        return 1;
    }

    int worth(int b, int n) {
        if (!isBed(b) || n < 1 || n > 60 || !now.sits.contains(b)) return -1;
        World with = now.copy(), without = now.copy();
        // No house can be without just one owl here: it is sent to a bed that is not there.
        without.sits.set(without.sits.indexOf(b), -5);
        for (int i = 0; i < n && with.hour < 400; i++) {
            with.go();
            without.go();
        }
        return without.misses[b] - with.misses[b];
    }

    int note(int b) {
        if (!isBed(b)) return -1;
        int o = now.sits.indexOf(b);
        note = now.beds.get(b).name;
        if (o < 0) {
            note += " alone";
        } else {
            int side = now.lookSide(o, b, now.hour);
            note += " " + now.owls.get(o).name + (now.isShut(now.hour) ? " shut" : side < 0 ? " sleeps"
                : side == 4 ? " looks here" : " looks " + SIDES.get(side));
        }
        return note.length();
    }

    int byteAt(int i) { return i >= 0 && i < note.length() ? note.charAt(i) : -1; }

    int odds(int b, int n, int seed) {
        if (!isBed(b) || n < 1 || n > 30) return -1;
        int good = 0;
        for (int i = 0; i < n; i++) {
            World w = now.copy();
            w.seed = seed + i;
            for (int h = 0; h < 12 && w.hour < 400; h++) w.goDrawn();
            if (w.misses[b] == now.misses[b]) good++;
        }
        return good;
    }

    int book(int lives) {
        if (lives != 0 && lives != 1) return -1000;
        List<int[]> lines;
        try {
            lines = new Reader(takeTape(), 400, now).book();
            fault = 0;
        } catch (Fault f) {
            fault = f.kind;
            return -2 - f.place;
        }
        World w = now.copy();
        int ahead = 0, why = 0;
        for (int[] l : lines) {
            why = switch (l[0]) {
                case 0 -> w.lend(l[1], l[2]);
                case 1 -> w.hushed.add(l[1]) ? 0 : 11;
                case 2 -> w.hushed.remove(l[1]) ? 0 : 21;
                case 3 -> l[1] >= w.wide || l[2] >= w.high ? 39 : w.shoutAt(l[1], l[2], l[3]) == 0 ? 0 : 31;
                default -> w.hour + l[1] > 400 ? 41 : 0;
            };
            if (why != 0) break;
            if (l[0] == 4) for (int i = 0; i < l[1]; i++) w.go();
            ahead++;
        }
        told = new int[] {why, ahead, w.hour, w.lookers()};
        if (lives == 1 && ahead > 0) {
            keep(now);
            now = w;
        }
        return why == 0 ? -1 : ahead;
    }

    int told(int what) { return told == null || what < 0 || what > 3 ? -1 : told[what]; }

    int sentence() {
        try {
            Reader r = new Reader(takeTape(), 200, now);
            Predicate<Object[]> p = r.cond(1);
            r.take('$');
            now.sentence = p;
            fault = 0;
            return r.ones;
        } catch (Fault f) {
            fault = f.kind;
            return -1 - f.place;
        }
    }

    int said(int k) {
        if (now.sentence == null) return -1;
        List<Integer> list = new ArrayList<>();
        for (int b = 0; b < now.beds.size(); b++) if (now.sentence.test(new Object[] {now, b})) list.add(b);
        return k == -1 ? list.size() : in(list, k);
    }

    boolean image(int k) {
        if (k != 0 && k != 1) return false;
        kept[k] = now.copy();
        return true;
    }

    boolean restore(int k) {
        if (k != 0 && k != 1 || kept[k] == null) return false;
        now = kept[k].copy();
        past.clear();
        return true;
    }

    int count(int what) {
        if (what < 0 || what > 5) return -1;
        return new int[] {now.beds.size(), now.owls.size(), now.sounds.size(), now.wide, now.high, tape.length()}[what];
    }
}

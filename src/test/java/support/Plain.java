import java.math.BigInteger;
import java.util.ArrayDeque;
import java.util.ArrayList;
import java.util.Deque;
import java.util.HashMap;
import java.util.List;
import java.util.Map;

/**
 * The document a second time, in the plainest form: every question in thought is answered by copying the
 * house and letting the hours pass in the copy. Slow, and free with objects.
 */
final class Plain {
    static final int BAD = -1, NOT = -2, FULL = -3, STATE = -5;

    static final class Person {
        int flat;
        int out;
        int[] thinks = new int[4];
        int[] wet = new int[4];

        Person copy() {
            Person p = new Person();
            p.flat = flat;
            p.out = out;
            p.thinks = thinks.clone();
            p.wet = wet.clone();
            return p;
        }

        int allWet() {
            return wet[0] + wet[1] + wet[2] + wet[3];
        }

        boolean isOut(int hour) {
            return (out & 1 << hour) != 0;
        }
    }

    static final class World {
        List<Person> people = new ArrayList<>();
        int[] awning = new int[24];
        int iron;
        int hour;
        int[] led = new int[5];
        String law = "";
        int[][] comes;
        int[][] runs;

        World copy() {
            World w = new World();
            for (Person p : people) {
                w.people.add(p.copy());
            }
            w.awning = awning.clone();
            w.iron = iron;
            w.hour = hour;
            w.led = led.clone();
            w.law = law;
            return w;
        }

        List<Person> outside() {
            List<Person> out = new ArrayList<>();
            for (Person p : people) {
                if (p.isOut(hour)) {
                    out.add(p);
                }
            }
            return out;
        }

        /** What came to the porter of each mark. */
        int[] pass() {
            return pass(outside());
        }

        int[] pass(List<Person> out) {
            int[] porter = new int[4];
            comes = new int[24][4];
            runs = new int[24][4];
            for (int stack = 0; stack < 3; stack++) {
                for (int mark = 0; mark < 4; mark++) {
                    int down = 0;
                    for (int floor = 7; floor >= 0; floor--) {
                        int flat = 8 * stack + floor;
                        comes[flat][mark] = down;
                        int much = down;
                        int many = 0;
                        for (Person p : out) {
                            if (p.flat == flat) {
                                p.wet[mark] = Math.min(9999, p.wet[mark] + Math.max(0, down - awning[flat]));
                                much += p.thinks[mark];
                                many++;
                            }
                        }
                        down = lets(much, awning[flat], floor, mark, many);
                        runs[flat][mark] = down;
                    }
                    porter[mark] += down;
                }
            }
            hour = hour == 11 ? 0 : hour + 1;
            return porter;
        }

        int lets(int a, int w, int f, int m, int n) {
            int much;
            if (law.isEmpty()) {
                much = a - w - iron / 3;
            } else {
                Map<Character, Integer> names = new HashMap<>();
                names.put('a', a);
                names.put('w', w);
                names.put('i', iron);
                names.put('f', f);
                names.put('m', m);
                names.put('n', n);
                much = PlainLaw.worth(law, names);
            }
            return much < 0 ? 0 : much > a ? a : much;
        }
    }

    static final class Change {
        int number;
        int what;
        int was;
        int becomes;
    }

    World now = new World();
    World image;
    StringBuilder tape = new StringBuilder();
    Deque<Change> made = new ArrayDeque<>();
    Deque<Change> undone = new ArrayDeque<>();
    List<PlainBodies.Drop> bodies = new ArrayList<>();
    List<Integer> trace = new ArrayList<>();
    Object[] shelves = new Object[6];

    boolean one(int one) {
        return one >= 0 && one < now.people.size();
    }

    boolean pm(int pm) {
        return pm >= 0 && one(pm / 10) && pm % 10 < 4;
    }

    static boolean in(int v, int low, int high) {
        return v >= low && v <= high;
    }

    World after(int hours) {
        World w = now.copy();
        for (int k = 0; k < hours; k++) {
            w.pass();
        }
        return w;
    }

    int person(int flat, int out) {
        if (!in(flat, 0, 23) || !in(out, 0, 4095)) {
            return BAD;
        }
        if (now.people.size() == 6) {
            return FULL;
        }
        Person p = new Person();
        p.flat = flat;
        p.out = out;
        now.people.add(p);
        return now.people.size() - 1;
    }

    int people(int shelf, int i, int n) {
        if (!in(shelf, 0, 5) || !in(n, 1, 6)) {
            return BAD;
        }
        if (shelves[shelf] != null && !(shelves[shelf] instanceof short[])) {
            return -12;
        }
        if (shelves[shelf] == null || i < 0) {
            return 0;
        }
        short[] row = (short[]) shelves[shelf];
        for (int k = 0; k < n; k++) {
            long at = i + 2L * k;
            if (at + 1 >= row.length || person(row[(int) at], row[(int) at + 1]) < 0) {
                return k;
            }
        }
        return n;
    }

    int[] cell(int number, int what) {
        switch (what) {
            case 2: return pm(number) ? now.people.get(number / 10).thinks : null;
            case 3: return pm(number) ? now.people.get(number / 10).wet : null;
            default: return null;
        }
    }

    int of(int number, int what) {
        if (what == 0 && one(number)) {
            return now.people.get(number).flat;
        }
        if (what == 1 && one(number)) {
            return now.people.get(number).out;
        }
        if (cell(number, what) != null) {
            return cell(number, what)[number % 10];
        }
        if (what == 4 && in(number, 0, 23)) {
            return now.awning[number];
        }
        if (what == 5 && number == 0) {
            return now.iron;
        }
        return what == 6 && number == 0 ? now.hour : BAD;
    }

    void set(int number, int what, int v) {
        if (what == 0) {
            now.people.get(number).flat = v;
        } else if (what == 1) {
            now.people.get(number).out = v;
        } else if (what == 2 || what == 3) {
            cell(number, what)[number % 10] = v;
        } else if (what == 4) {
            now.awning[number] = v;
        } else if (what == 5) {
            now.iron = v;
        } else {
            now.hour = v;
        }
    }

    int mend(int number, int what, int v) {
        int was = of(number, what);
        if (was < 0 || !in(v, 0, new int[] {23, 4095, 9, 9999, 9, 9, 11}[what])) {
            return BAD;
        }
        if (was != v) {
            Change c = new Change();
            c.number = number;
            c.what = what;
            c.was = was;
            c.becomes = v;
            set(number, what, v);
            made.addLast(c);
            undone.clear();
            if (made.size() > 40) {
                made.removeFirst();
            }
        }
        return was;
    }

    int feed(int letter) {
        if (!in(letter, 0, 255)) {
            return BAD;
        }
        if (tape.length() == 120) {
            return FULL;
        }
        tape.append((char) letter);
        return tape.length();
    }

    int law() {
        String text = tape.toString();
        tape = new StringBuilder();
        int fault = PlainLaw.fault(text);
        if (fault >= 0) {
            return -100 - fault;
        }
        now.law = text;
        return 1;
    }

    int comes(int hf, int mark, int what) {
        if (hf < 0 || hf / 100 > 11 || hf % 100 > 23 || !in(mark, 0, 3) || !in(what, 0, 1)) {
            return BAD;
        }
        World w = now.copy();
        w.hour = hf / 100;
        w.pass();
        return (what == 0 ? w.comes : w.runs)[hf % 100][mark];
    }

    int porter(int hour, int mark) {
        if (!in(hour, 0, 11) || !in(mark, 0, 3)) {
            return BAD;
        }
        World w = now.copy();
        w.hour = hour;
        return w.pass()[mark];
    }

    int wet(int n, int pm) {
        return in(n, 0, 48) && pm(pm) ? after(n).people.get(pm / 10).wet[pm % 10] : BAD;
    }

    int most(int n, int one, int what) {
        if (!in(n, 0, 48) || !one(one) || !in(what, 0, 1)) {
            return BAD;
        }
        Person p = after(n).people.get(one);
        if (what == 0) {
            return p.allWet();
        }
        int best = 0;
        for (int mark = 0; mark < 4; mark++) {
            best = p.wet[mark] > p.wet[best] ? mark : best;
        }
        return p.wet[best] == 0 ? NOT : best;
    }

    int caught(int n, int mark) {
        if (!in(n, 0, 48) || !in(mark, 0, 3)) {
            return BAD;
        }
        World w = now.copy();
        int all = 0;
        for (int k = 0; k < n; k++) {
            all += w.pass()[mark];
        }
        return all;
    }

    int first(int one) {
        if (!one(one)) {
            return BAD;
        }
        World w = now.copy();
        for (int n = 0; n <= 48; n++) {
            if (w.people.get(one).allWet() > now.people.get(one).allWet()) {
                return n;
            }
            w.pass();
        }
        return NOT;
    }

    static void pass12(World w) {
        for (int k = 0; k < 12; k++) {
            w.pass();
        }
    }

    int from(int one, int what) {
        if (!one(one) || !in(what, 0, 1)) {
            return BAD;
        }
        int bits = 0;
        for (int p = 0; p < now.people.size(); p++) {
            if (p == one) {
                continue;
            }
            World w = now.copy();
            Person a = w.people.get(one);
            Person b = w.people.get(p);
            w.people = new ArrayList<>(List.of(a, b));
            int before = (what == 0 ? a : b).allWet();
            pass12(w);
            if ((what == 0 ? a : b).allWet() > before) {
                bits |= 1 << p;
            }
        }
        return bits;
    }

    int dry(int one, int what) {
        if (!one(one) || !in(what, 0, 1)) {
            return BAD;
        }
        int stack = now.people.get(one).flat / 8;
        for (int many = 0; many <= 8; many++) {
            for (int floors = 0; floors < 256; floors++) {
                if (Integer.bitCount(floors) != many) {
                    continue;
                }
                World w = now.copy();
                for (int f = 0; f < 8; f++) {
                    if ((floors & 1 << f) != 0) {
                        w.awning[8 * stack + f] = 9;
                    }
                }
                pass12(w);
                if (w.people.get(one).allWet() == now.people.get(one).allWet()) {
                    return what == 0 ? many : floors;
                }
            }
        }
        return NOT;
    }

    private void dealings(List<Integer> begun, List<List<Integer>> all) {
        if (begun.size() == now.people.size()) {
            all.add(new ArrayList<>(begun));
            return;
        }
        for (int k = 0; k < now.people.size(); k++) {
            if (!begun.contains(k)) {
                begun.add(k);
                dealings(begun, all);
                begun.remove(begun.size() - 1);
            }
        }
    }

    int change(int pm, int way, int other) {
        if (!pm(pm) || !in(way, 0, 1) || other != -1 && !one(other)) {
            return BAD;
        }
        List<List<Integer>> all = new ArrayList<>();
        dealings(new ArrayList<>(), all);
        Integer best = null;
        int flat = 0;
        for (List<Integer> whose : all) {
            World w = now.copy();
            for (int k = 0; k < whose.size(); k++) {
                w.people.get(k).flat = now.people.get(whose.get(k)).flat;
            }
            pass12(w);
            int much = w.people.get(pm / 10).wet[pm % 10] - now.people.get(pm / 10).wet[pm % 10];
            if (best == null || (way == 0 ? much < best : much > best)) {
                best = much;
                flat = other < 0 ? 0 : w.people.get(other).flat;
            }
        }
        return other < 0 ? best : flat;
    }

    static boolean just(byte[] row, int[] came) {
        return row[0] == came[0] && row[1] == came[1] && row[2] == came[2] && row[3] == came[3];
    }

    int basin(int shelf) {
        if (shelves[shelf] == null) {
            return -11;
        }
        if (!(shelves[shelf] instanceof byte[])) {
            return -12;
        }
        return ((byte[]) shelves[shelf]).length == 4 ? 0 : BAD;
    }

    static List<Person> chosen(World w, int set) {
        List<Person> out = new ArrayList<>();
        for (int p = 0; p < w.people.size(); p++) {
            if ((set & 1 << p) != 0) {
                out.add(w.people.get(p));
            }
        }
        return out;
    }

    int who(int shelf, int hour, int what) {
        if (!in(shelf, 0, 5) || !in(hour, 0, 11) || !in(what, 0, 2)) {
            return BAD;
        }
        if (basin(shelf) != 0) {
            return basin(shelf);
        }
        List<Integer> fitting = new ArrayList<>();
        int certain = -1;
        for (int set = 0; set < 1 << now.people.size(); set++) {
            World w = now.copy();
            if (just((byte[]) shelves[shelf], w.pass(chosen(w, set)))) {
                fitting.add(set);
                certain &= set;
            }
        }
        if (what == 0) {
            return fitting.size();
        }
        return fitting.isEmpty() ? what == 1 ? NOT : 0 : what == 1 ? fitting.get(0) : certain;
    }

    int thought(int shelf, int hour, int pm, int what) {
        if (!in(shelf, 0, 5) || !in(hour, 0, 11) || !pm(pm) || !in(what, 0, 1)) {
            return BAD;
        }
        if (basin(shelf) != 0) {
            return basin(shelf);
        }
        List<Integer> fitting = new ArrayList<>();
        for (int v = 0; v < 10; v++) {
            World w = now.copy();
            w.hour = hour;
            w.people.get(pm / 10).thinks[pm % 10] = v;
            if (just((byte[]) shelves[shelf], w.pass())) {
                fitting.add(v);
            }
        }
        return what == 0 ? fitting.size() : fitting.isEmpty() ? NOT : fitting.get(0);
    }

    int rent(int one, int v) {
        if (!one(one) || !in(v, 0, 999)) {
            return BAD;
        }
        List<BigInteger> below = new ArrayList<>();
        BigInteger product = BigInteger.ONE;
        for (Person p : now.people) {
            long all = 1;
            World w = now.copy();
            for (int k = 0; k < 12; k++) {
                w.pass();
                for (int mark = 0; mark < 4; mark++) {
                    all += w.comes[p.flat][mark];
                }
            }
            below.add(BigInteger.valueOf(all));
            product = product.multiply(BigInteger.valueOf(all));
        }
        BigInteger sum = BigInteger.ZERO;
        for (BigInteger b : below) {
            sum = sum.add(product.divide(b));
        }
        return product.divide(below.get(one)).multiply(BigInteger.valueOf(v)).divide(sum).intValueExact();
    }

    int swap(int one) {
        if (!one(one)) {
            return BAD;
        }
        World stay = now.copy();
        pass12(stay);
        for (int p = 0; p < now.people.size(); p++) {
            if (p == one) {
                continue;
            }
            World w = now.copy();
            w.people.get(one).flat = now.people.get(p).flat;
            w.people.get(p).flat = now.people.get(one).flat;
            pass12(w);
            int mine = w.people.get(one).allWet() - stay.people.get(one).allWet();
            int his = w.people.get(p).allWet() - stay.people.get(p).allWet();
            if (mine <= 0 && his <= 0 && mine + his < 0) {
                return p;
            }
        }
        return NOT;
    }

    private long fraction(int pm, int hour, int part, boolean much) {
        if (!pm(pm) || !in(hour, 0, 11) || !in(part, 0, 1)) {
            return Long.MIN_VALUE;
        }
        long above = 0;
        long below = 0;
        for (int set = 0; set < 1 << now.people.size(); set++) {
            if ((set & 1 << pm / 10) != 0) {
                World w = now.copy();
                w.pass(chosen(w, set));
                int comes = w.comes[w.people.get(pm / 10).flat][pm % 10];
                above += much ? comes : comes > 0 ? 1 : 0;
                below++;
            }
        }
        long g = BigInteger.valueOf(above).gcd(BigInteger.valueOf(below)).longValueExact();
        return part == 0 ? above / g : below / g;
    }

    long odds(int pm, int hour, int part) {
        return fraction(pm, hour, part, false);
    }

    long mean(int pm, int hour, int part) {
        return fraction(pm, hour, part, true);
    }

    /** The wetness of the first one at the end, if both do their best from turn k on. */
    private int best(World w, int one, int foe, int mark, int k, int n) {
        if (k == n) {
            return w.people.get(one).wet[mark];
        }
        int in = best(turned(w, one, foe, k, false), one, foe, mark, k + 1, n);
        int out = best(turned(w, one, foe, k, true), one, foe, mark, k + 1, n);
        return k % 2 == 0 ? Math.max(in, out) : Math.min(in, out);
    }

    private static World turned(World from, int one, int foe, int k, boolean goes) {
        World w = from.copy();
        Person asked = w.people.get(k % 2 == 0 ? one : foe);
        List<Person> out = w.outside();
        out.remove(asked);
        if (goes) {
            out.add(asked);
        }
        w.pass(out);
        return w;
    }

    int byTurns(int ab, int n, int what) {
        if (ab < 0 || !one(ab / 10) || !one(ab % 10) || ab / 10 == ab % 10 || !in(n, 1, 6) || !in(what, 0, 1)) {
            return BAD;
        }
        int one = ab / 10;
        int foe = ab % 10;
        int mark = 0;
        for (int m = 0; m < 4; m++) {
            mark = now.people.get(foe).thinks[m] > now.people.get(foe).thinks[mark] ? m : mark;
        }
        if (what == 0) {
            return best(now.copy(), one, foe, mark, 0, n) - now.people.get(one).wet[mark];
        }
        int in = best(turned(now, one, foe, 0, false), one, foe, mark, 1, n);
        int out = best(turned(now, one, foe, 0, true), one, foe, mark, 1, n);
        return out > in ? 1 : 0;
    }

    int drawn(int seed, int nm, int what) {
        if (nm < 0 || !in(nm / 100, 1, 30) || !in(nm % 100, 1, 24) || !in(what, 0, 1)) {
            return BAD;
        }
        int z = seed;
        int wetter = 0;
        int porter = 0;
        for (int night = 0; night < nm / 100; night++) {
            World w = now.copy();
            for (int k = 0; k < nm % 100; k++) {
                List<Person> out = new ArrayList<>();
                for (Person p : w.people) {
                    z = z * 1103515245 + 12345;
                    if ((z >>> 8) % 2 == 1) {
                        out.add(p);
                    }
                }
                int[] came = w.pass(out);
                porter += came[0] + came[1] + came[2] + came[3];
            }
            for (int p = 0; p < w.people.size(); p++) {
                wetter += w.people.get(p).allWet() - now.people.get(p).allWet();
            }
        }
        return what == 0 ? wetter : porter;
    }

    int hour() {
        int[] came = now.pass();
        now.led[0]++;
        now.led[3] += came[0] + came[1] + came[2] + came[3];
        return now.hour;
    }

    int moves(int one, int flat) {
        if (!one(one) || !in(flat, 0, 23)) {
            return BAD;
        }
        int was = now.people.get(one).flat;
        now.people.get(one).flat = flat;
        now.led[1]++;
        return was;
    }

    int awning(int flat) {
        if (!in(flat, 0, 23)) {
            return BAD;
        }
        now.led[2]++;
        if (now.awning[flat] < 9) {
            now.awning[flat]++;
        }
        return now.awning[flat];
    }

    int wipe(int one) {
        if (!one(one)) {
            return BAD;
        }
        int was = now.people.get(one).allWet();
        now.people.get(one).wet = new int[4];
        now.led[4] += was;
        return was;
    }

    int led(int what) {
        return in(what, 0, 4) ? now.led[what] : BAD;
    }

    int image() {
        image = now.copy();
        return now.led[0];
    }

    int back() {
        if (image == null) {
            return STATE;
        }
        for (int p = 0; p < image.people.size(); p++) {
            now.people.get(p).flat = image.people.get(p).flat;
            now.people.get(p).wet = image.people.get(p).wet.clone();
        }
        now.hour = image.hour;
        now.awning = image.awning.clone();
        now.led = image.led.clone();
        return now.led[0];
    }

    int undo() {
        if (made.isEmpty()) {
            return STATE;
        }
        Change c = made.removeLast();
        undone.addLast(c);
        set(c.number, c.what, c.was);
        return made.size();
    }

    int redo() {
        if (undone.isEmpty()) {
            return STATE;
        }
        Change c = undone.removeLast();
        made.addLast(c);
        set(c.number, c.what, c.becomes);
        return undone.size();
    }

    int body(int kind) {
        if (!in(kind, 0, 7)) {
            return BAD;
        }
        if (bodies.size() == 50) {
            return FULL;
        }
        bodies.add(PlainBodies.made(kind, bodies.size(), trace));
        return bodies.size() - 1;
    }

    int act(int body, int act, int x) {
        trace.clear();
        return in(body, 0, bodies.size() - 1) && in(act, 0, 3) ? PlainBodies.act(bodies.get(body), act, x) : 0;
    }

    int trace(int i) {
        return i >= 0 && i < Math.min(24, trace.size()) ? trace.get(i) : BAD;
    }

    int keep(int shelf, int body) {
        if (!in(shelf, 0, 5) || !in(body, -1, bodies.size() - 1)) {
            return BAD;
        }
        shelves[shelf] = body < 0 ? null : bodies.get(body);
        return 1;
    }

    int row(int shelf, int sort, int n) {
        if (!in(shelf, 0, 5) || !in(sort, 0, 4) || n > 60) {
            return BAD;
        }
        if (n < 0) {
            return -14;
        }
        switch (sort) {
            case 0: shelves[shelf] = new byte[n]; break;
            case 1: shelves[shelf] = new short[n]; break;
            case 2: shelves[shelf] = new int[n]; break;
            case 3: shelves[shelf] = new long[n]; break;
            default: shelves[shelf] = new boolean[n]; break;
        }
        return 1;
    }

    private static int length(Object row) {
        return java.lang.reflect.Array.getLength(row);
    }

    private static boolean isRow(Object held) {
        return held.getClass().isArray();
    }

    private int refusal(int shelf, int i) {
        if (!in(shelf, 0, 5)) {
            return BAD;
        }
        if (shelves[shelf] == null) {
            return -11;
        }
        if (!isRow(shelves[shelf])) {
            return -12;
        }
        return in(i, 0, length(shelves[shelf]) - 1) ? 0 : -13;
    }

    int put(int shelf, int i, long v) {
        if (refusal(shelf, i) != 0) {
            return refusal(shelf, i);
        }
        Object row = shelves[shelf];
        if (row instanceof byte[]) {
            ((byte[]) row)[i] = (byte) v;
        } else if (row instanceof short[]) {
            ((short[]) row)[i] = (short) v;
        } else if (row instanceof int[]) {
            ((int[]) row)[i] = (int) v;
        } else if (row instanceof long[]) {
            ((long[]) row)[i] = v;
        } else {
            ((boolean[]) row)[i] = v != 0;
        }
        return 1;
    }

    long element(int shelf, int i) {
        if (refusal(shelf, i) != 0) {
            return Long.MIN_VALUE;
        }
        Object row = shelves[shelf];
        return row instanceof boolean[] ? ((boolean[]) row)[i] ? 1 : 0 : java.lang.reflect.Array.getLong(row, i);
    }

    int shift(int shelf, int i, int other, int j, int n) {
        if (!in(shelf, 0, 5) || !in(other, 0, 5)) {
            return BAD;
        }
        Object from = shelves[shelf];
        Object to = shelves[other];
        if (from == null || to == null) {
            return -11;
        }
        if (!isRow(from) || from.getClass() != to.getClass()) {
            return -12;
        }
        try {
            System.arraycopy(from, i, to, j, n);
        } catch (IndexOutOfBoundsException e) {
            return -13;
        }
        return n;
    }

    int taken(int shelf, int k) {
        if (!in(shelf, 0, 5) || !in(k, 0, 7)) {
            return BAD;
        }
        if (shelves[shelf] == null) {
            return -11;
        }
        if (isRow(shelves[shelf]) || !PlainBodies.isA((PlainBodies.Drop) shelves[shelf], k)) {
            return -12;
        }
        return PlainBodies.kindOf((PlainBodies.Drop) shelves[shelf]);
    }

    int count(int what) {
        int awnings = 0;
        for (int a : now.awning) {
            awnings += a > 0 ? 1 : 0;
        }
        return in(what, 0, 5) ? new int[] {now.people.size(), awnings, tape.length(), made.size(), bodies.size(), trace.size()}[what] : BAD;
    }
}

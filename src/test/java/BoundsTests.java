import java.lang.reflect.Method;
import java.util.ArrayList;
import java.util.Arrays;
import java.util.HashSet;
import java.util.List;
import java.util.Set;

/**
 * Each argument's bounds, of every method: just inside it is taken, just outside and far off refused. What is
 * refused, and what is asked but in thought, leaves all that can be asked of an object as it was.
 */
public final class BoundsTests extends Asking {
    private static final Set<String> ASKED = new HashSet<>(Arrays.asList(
        "of", "comes", "porter", "wet", "most", "caught", "first", "from", "dry", "change", "who", "thought", "rent", "swap",
        "odds", "mean", "byTurns", "drawn", "led", "trace", "element", "taken", "count"));
    private static final long WRONG = Long.MIN_VALUE;

    private int people;
    private List<Long> untouched;

    public static void main(String[] args) throws Exception {
        BoundsTests t = new BoundsTests();
        for (int people : new int[] {0, 1, 6}) {
            t.with(people);
            t.peopleBounds();
            t.ones();
            t.marksAndOnes();
            t.hoursAndFlats();
            t.askedBounds();
            t.deeds();
            t.actsAndShelves();
        }
        t.with(2);
        t.newcomers();
        t.turnsAndNights();
        t.due.end("BoundsTests");
    }

    private void with(int many) throws Exception {
        people = many;
        about = many + " of PEOPLE";
        untouched = all(world(), true);
    }

    /** Of everything something, so that a change of anything could be seen. */
    private ThoughtsDrip world() {
        ThoughtsDrip x = new ThoughtsDrip();
        for (int p = 0; p < people; p++) {
            x.person(7 - p, ALWAYS - p);
            x.mend(10 * p + p % 4, 2, 9 - p);
        }
        x.awning(3);
        x.awning(20);
        x.hour();
        x.image();
        x.hour();
        x.awning(19);
        x.mend(0, 5, 3);
        x.mend(6, 4, 1);
        x.mend(7, 4, 2);
        x.undo();
        tell(x, "a-w");
        feedAll(x, "a-1");
        x.body(0);
        x.body(5);
        x.body(7);
        x.act(1, 3, 5);
        basin(x, 0, 1, 0, 0, 0);
        shorts(x, 1, 5, 6, 7, 8, 9);
        row(x, 2, 3, 4, 3, 2, 1, 0);
        x.keep(3, 1);
        row(x, 5, 3, 6, 7, 8, 9, 10);
        return x;
    }

    /** What an object answers to all questions, and then to going back in all ways. */
    private List<Long> all(ThoughtsDrip x, boolean traced) {
        List<Long> seen = new ArrayList<>();
        numbers(x, seen);
        for (int i = 0; i < 12; i++) {
            seen.add(traced ? (long) x.trace(i) : 0L);
        }
        for (int shelf = 0; shelf < 6; shelf++) {
            seen.add((long) x.taken(shelf, 0));
            for (int i = 0; i < 6; i++) {
                seen.add(x.element(shelf, i));
            }
        }
        seen.add((long) x.redo());
        seen.add((long) x.of(7, 4));
        seen.add((long) x.porter(0, 0));
        seen.add((long) x.law());
        seen.add((long) x.porter(0, 0));
        for (int k = 0; k < 10; k++) {
            seen.add((long) x.undo());
        }
        seen.add((long) x.back());
        numbers(x, seen);
        return seen;
    }

    private void numbers(ThoughtsDrip x, List<Long> seen) {
        for (int flat = 0; flat < 24; flat++) {
            seen.add((long) x.of(flat, 4));
        }
        for (int p = 0; p < people; p++) {
            seen.add((long) x.of(p, 0));
            seen.add((long) x.of(p, 1));
            for (int mark = 0; mark < 4; mark++) {
                seen.add((long) x.of(10 * p + mark, 2));
                seen.add((long) x.of(10 * p + mark, 3));
            }
        }
        seen.add((long) x.of(0, 5));
        seen.add((long) x.of(0, 6));
        for (int what = 0; what < 5; what++) {
            seen.add((long) x.led(what));
            seen.add((long) x.count(what));
        }
    }

    private static long ask(ThoughtsDrip x, String name, long... args) throws Exception {
        for (Method m : ThoughtsDrip.class.getMethods()) {
            if (m.getName().equals(name) && m.getDeclaringClass() == ThoughtsDrip.class) {
                Object[] given = new Object[args.length];
                for (int k = 0; k < args.length; k++) {
                    given[k] = m.getParameterTypes()[k] == long.class ? (Object) args[k] : (Object) (int) args[k];
                }
                return ((Number) m.invoke(x, given)).longValue();
            }
        }
        throw new IllegalStateException("no method " + name);
    }

    private static String call(String name, long... args) {
        String list = Arrays.toString(args);
        return name + "(" + list.substring(1, list.length() - 1) + ")";
    }

    /** It answers a refusal, and nothing has changed (but THE TRACE by act(), as the document says). */
    private void refused(long refusal, String name, long... args) throws Exception {
        ThoughtsDrip x = world();
        is(call(name, args), ask(x, name, args), refusal);
        boolean traced = !name.equals("act");
        List<Long> seen = all(x, traced);
        due.holds(about + ": " + call(name, args) + " refused changes nothing", seen.equals(traced ? untouched : all(world(), false)));
    }

    private void takes(long refusal, String name, long... args) throws Exception {
        ThoughtsDrip x = world();
        long answer = ask(x, name, args);
        due.holds(about + ": " + call(name, args) + " is taken, not answered by " + refusal, answer != refusal);
        if (ASKED.contains(name)) {
            due.holds(about + ": " + call(name, args) + " changes nothing", all(x, true).equals(untouched));
        }
    }

    private static long[] with(long[] args, int which, long v) {
        long[] changed = args.clone();
        changed[which] = v;
        return changed;
    }

    /** An argument may be from low to high, the others as given. */
    private void bounds(long refusal, String name, int which, long low, long high, long... args) throws Exception {
        if (low <= high) {
            takes(refusal, name, with(args, which, low));
            takes(refusal, name, with(args, which, high));
        }
        for (long v : new long[] {low - 1, high + 1, LEAST, GREATEST, LEAST + 1, GREATEST - 1}) {
            refused(refusal, name, with(args, which, v));
        }
    }

    private void peopleBounds() throws Exception {
        int last = people - 1;
        bounds(BAD, "of", 0, 0, last, 0, 0);
        bounds(BAD, "of", 0, 0, last, 0, 1);
        bounds(BAD, "of", 0, 0, 23, 0, 4);
        bounds(BAD, "of", 0, 0, 0, 0, 5);
        bounds(BAD, "of", 0, 0, 0, 0, 6);
        bounds(BAD, "mend", 0, 0, last, 0, 0, 1);
        bounds(BAD, "mend", 0, 0, last, 0, 1, 1);
        bounds(BAD, "mend", 0, 0, 23, 0, 4, 1);
        bounds(BAD, "mend", 0, 0, 0, 0, 5, 1);
        bounds(BAD, "mend", 0, 0, 0, 0, 6, 1);
        bounds(BAD, "mend", 2, 0, 9, 0, 4, 0);
        bounds(BAD, "mend", 2, 0, 9, 0, 5, 0);
        bounds(BAD, "mend", 2, 0, 11, 0, 6, 0);
        int first = people > 0 ? 0 : 4;
        bounds(BAD, "of", 1, first, 6, 0, 0);
        bounds(BAD, "mend", 1, first, 6, 0, 0, 0);
        if (people > 0) {
            bounds(BAD, "mend", 2, 0, 23, last, 0, 0);
            bounds(BAD, "mend", 2, 0, 4095, last, 1, 0);
            bounds(BAD, "mend", 2, 0, 9, 10 * last + 3, 2, 0);
            bounds(BAD, "mend", 2, 0, 9999, 10 * last + 3, 3, 0);
        }
        bounds(BAD, "feed", 0, 0, 255, 97);
        bounds(BAD, "people", 0, 0, 5, 1, 0, 1);
        bounds(BAD, "people", 2, 1, 6, 1, 0, 1);
        for (long i : new long[] {-1, LEAST, 4, 5, GREATEST}) {
            refused(0, "people", 1, i, 6);
        }
        refused(0, "people", 4, 0, 1);
        refused(KIND, "people", 0, 0, 1);
        refused(KIND, "people", 3, 0, 1);
    }

    /** All that is asked of one of PEOPLE. */
    private void ones() throws Exception {
        int last = people - 1;
        bounds(BAD, "most", 1, 0, last, 48, 0, 0);
        bounds(BAD, "most", 1, 0, last, 48, 0, 1);
        bounds(BAD, "first", 0, 0, last, 0);
        bounds(BAD, "from", 0, 0, last, 0, 0);
        bounds(BAD, "from", 0, 0, last, 0, 1);
        bounds(BAD, "dry", 0, 0, last, 0, 0);
        bounds(BAD, "dry", 0, 0, last, 0, 1);
        bounds(BAD, "rent", 0, 0, last, 0, 999);
        bounds(BAD, "swap", 0, 0, last, 0);
        bounds(BAD, "moves", 0, 0, last, 0, 9);
        bounds(BAD, "wipe", 0, 0, last, 0);
        if (people > 0) {
            bounds(BAD, "most", 0, 0, 48, 0, last, 0);
            bounds(BAD, "most", 2, 0, 1, 0, last, 0);
            bounds(BAD, "from", 1, 0, 1, last, 0);
            bounds(BAD, "dry", 1, 0, 1, last, 0);
            bounds(BAD, "rent", 1, 0, 999, last, 0);
            bounds(BAD, "moves", 1, 0, 23, last, 0);
            bounds(BAD, "change", 1, 0, 1, 10 * last, 0, -1);
            bounds(BAD, "change", 2, -1, last, 10 * last, 0, -1);
            bounds(BAD, "thought", 3, 0, 1, 0, 0, 0, 0);
            bounds(BAD, "thought", 1, 0, 11, 0, 0, 0, 0);
            bounds(BAD, "thought", 0, 0, 5, 0, 0, 0, 0);
            for (String name : new String[] {"odds", "mean"}) {
                bounds(WRONG, name, 1, 0, 11, 10 * last + 3, 0, 0);
                bounds(WRONG, name, 2, 0, 1, 10 * last + 3, 0, 0);
            }
            bounds(BAD, "wet", 0, 0, 48, 0, 10 * last + 3);
        }
    }

    /** Whatever is told as pm: 10 times one of PEOPLE, and the MARK. */
    private void marksAndOnes() throws Exception {
        List<Long> numbers = new ArrayList<>(List.of((long) LEAST, (long) GREATEST, -2147483640L, 2147483640L));
        for (long pm = -13; pm < 75; pm++) {
            numbers.add(pm);
        }
        for (long pm : numbers) {
            boolean fine = pm >= 0 && pm / 10 < people && pm % 10 < 4;
            pmCall(fine, BAD, "of", pm, 2);
            pmCall(fine, BAD, "of", pm, 3);
            pmCall(fine, BAD, "mend", pm, 2, 8);
            pmCall(fine, BAD, "mend", pm, 3, 8);
            pmCall(fine, BAD, "wet", 3, pm);
            pmCall(fine, BAD, "change", pm, 1, -1);
            pmCall(fine, BAD, "thought", 0, 3, pm, 0);
            pmCall(fine, WRONG, "odds", pm, 3, 1);
            pmCall(fine, WRONG, "mean", pm, 3, 1);
        }
    }

    private void pmCall(boolean fine, long refusal, String name, long... args) throws Exception {
        if (fine) {
            takes(refusal, name, args);
        } else {
            refused(refusal, name, args);
        }
    }

    /** Whatever is told as hf: 100 times the HOUR, and the FLAT. */
    private void hoursAndFlats() throws Exception {
        List<Long> numbers = new ArrayList<>(List.of((long) LEAST, (long) GREATEST, -100L, -1L, -124L, 10000L, 2147483600L, -2147483600L));
        for (long hour = 0; hour < 13; hour++) {
            for (long flat : new long[] {0, 1, 22, 23, 24, 25, 77, 98, 99}) {
                numbers.add(100 * hour + flat);
            }
        }
        for (long hf : numbers) {
            pmCall(hf >= 0 && hf / 100 < 12 && hf % 100 < 24, BAD, "comes", hf, 3, 1);
        }
        bounds(BAD, "comes", 1, 0, 3, 1123, 0, 0);
        bounds(BAD, "comes", 2, 0, 1, 0, 0, 0);
    }

    private void askedBounds() throws Exception {
        bounds(BAD, "porter", 0, 0, 11, 0, 0);
        bounds(BAD, "porter", 1, 0, 3, 0, 0);
        bounds(BAD, "caught", 0, 0, 48, 0, 0);
        bounds(BAD, "caught", 1, 0, 3, 48, 0);
        bounds(BAD, "who", 0, 0, 5, 0, 0, 0);
        bounds(BAD, "who", 1, 0, 11, 0, 0, 0);
        bounds(BAD, "who", 2, 0, 2, 0, 0, 0);
        bounds(BAD, "led", 0, 0, 4, 0);
        bounds(BAD, "count", 0, 0, 5, 0);
        refused(NONE, "who", 4, 0, 0);
        refused(KIND, "who", 1, 0, 0);
        refused(KIND, "who", 2, 0, 0);
        refused(KIND, "who", 3, 0, 0);
        if (people > 0) {
            refused(NONE, "thought", 4, 0, 0, 0);
            refused(KIND, "thought", 1, 0, 0, 0);
            refused(KIND, "thought", 2, 0, 0, 0);
            refused(KIND, "thought", 3, 0, 0, 0);
        }
    }

    private void deeds() throws Exception {
        bounds(BAD, "awning", 0, 0, 23, 0);
        if (people == 6) {
            refused(FULL, "person", 0, 0);
            refused(FULL, "person", 23, 4095);
            refused(BAD, "person", 24, 0);
            refused(BAD, "person", 0, 4096);
            refused(0, "people", 1, 0, 2);
        }
    }

    private void actsAndShelves() throws Exception {
        bounds(BAD, "body", 0, 0, 7, 0);
        bounds(0, "act", 0, 0, 2, 0, 0, 7);
        bounds(0, "act", 1, 0, 3, 2, 0, 7);
        bounds(BAD, "trace", 0, 0, 9, 0);
        bounds(BAD, "keep", 0, 0, 5, 0, -1);
        bounds(BAD, "keep", 1, -1, 2, 4, -1);
        bounds(BAD, "row", 0, 0, 5, 0, 0, 1);
        bounds(BAD, "row", 1, 0, 4, 0, 0, 1);
        for (long n : new long[] {61, GREATEST}) {
            refused(BAD, "row", 0, 3, n);
        }
        for (long n : new long[] {-1, LEAST}) {
            refused(SIZE, "row", 0, 3, n);
            refused(BAD, "row", 0, 5, n);
            refused(BAD, "row", 0, -1, n);
            refused(BAD, "row", 6, 0, n);
            refused(BAD, "row", -1, 0, n);
        }
        takes(BAD, "row", 0, 3, 60);
        takes(SIZE, "row", 0, 3, 0);
        placeBounds();
        bounds(BAD, "taken", 0, 0, 5, 0, 0);
        bounds(BAD, "taken", 1, 0, 7, 3, 0);
        refused(NONE, "taken", 4, 0);
        refused(KIND, "taken", 0, 0);
        refused(KIND, "taken", 3, 1);
    }

    private void placeBounds() throws Exception {
        bounds(BAD, "put", 0, 0, 5, 0, 0, 1);
        bounds(PLACE, "put", 1, 0, 4, 2, 0, 1);
        refused(NONE, "put", 4, 0, 1);
        refused(NONE, "put", 4, -1, 1);
        refused(KIND, "put", 3, 0, 1);
        refused(KIND, "put", 3, -1, 1);
        bounds(WRONG, "element", 0, 0, 2, 0, 0);
        bounds(WRONG, "element", 1, 0, 4, 2, 0);
        refused(WRONG, "element", 4, 0);
        refused(WRONG, "element", 3, 0);
        bounds(BAD, "shift", 0, 0, 5, 2, 0, 5, 0, 1);
        bounds(BAD, "shift", 2, 0, 5, 2, 0, 5, 0, 1);
        bounds(PLACE, "shift", 1, 0, 3, 2, 0, 5, 0, 2);
        bounds(PLACE, "shift", 3, 0, 3, 2, 0, 5, 0, 2);
        bounds(PLACE, "shift", 4, 0, 5, 2, 0, 5, 0, 0);
        bounds(PLACE, "shift", 4, 0, 2, 2, 3, 5, 0, 0);
        bounds(PLACE, "shift", 4, 0, 2, 2, 0, 5, 3, 0);
        refused(NONE, "shift", 4, 0, 2, 0, 1);
        refused(NONE, "shift", 2, 0, 4, 0, 1);
        refused(NONE, "shift", 3, 0, 4, 0, 1);
        refused(KIND, "shift", 3, 0, 2, 0, 1);
        refused(KIND, "shift", 2, 0, 3, 0, 1);
        refused(KIND, "shift", 2, 0, 1, 0, -1);
    }

    private void newcomers() throws Exception {
        bounds(BAD, "person", 0, 0, 23, 0, 0);
        bounds(BAD, "person", 1, 0, 4095, 0, 0);
    }

    /** Whatever is told as ab and as nm, and the others with it. */
    private void turnsAndNights() throws Exception {
        bounds(BAD, "byTurns", 1, 1, 6, 10, 1, 0);
        bounds(BAD, "byTurns", 2, 0, 1, 10, 1, 0);
        for (long ab = -12; ab < 125; ab++) {
            pmCall(ab == 1 || ab == 10, BAD, "byTurns", ab, 6, 1);
        }
        refused(BAD, "byTurns", LEAST, 1, 0);
        refused(BAD, "byTurns", GREATEST, 1, 0);
        bounds(BAD, "drawn", 2, 0, 1, 7, 101, 0);
        for (long seed : new long[] {LEAST, -1, 0, 1, GREATEST}) {
            takes(BAD, "drawn", seed, 3024, 0);
        }
        for (long n = 0; n < 33; n++) {
            for (long m : new long[] {0, 1, 2, 23, 24, 25, 26, 99}) {
                pmCall(n >= 1 && n <= 30 && m >= 1 && m <= 24, BAD, "drawn", 7, 100 * n + m, 1);
            }
        }
        for (long nm : new long[] {LEAST, -1, -100, -101, -1024, -3024, 10101, 1000001, GREATEST}) {
            refused(BAD, "drawn", 7, nm, 0);
        }
    }
}

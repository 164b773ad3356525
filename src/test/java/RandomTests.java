import java.util.ArrayList;
import java.util.List;
import java.util.Random;

/** Long runs of random calls, each answer compared with that of the plain model. Arguments: runs, first seed. */
public final class RandomTests {
    private static final String[] TEXTS = {
        "a", "0", "a-1", "a/2", "a-w", "a-w-i", "a*3/4-w*(f=2)-i/3+m-n+1", "m=0?a-w;m=1?a-1;a/2", "f>5?a;w?0;a-n",
        "!w*a", "n>1?0;a", "a%7", "-(-a)", "a>9&f<4|n=0", "a/(w-1)", "a%w;1", "i?a-i;f%2?a-1", "9999*9999*9999", "n*w*f",
        "9-a", "!!a*5", "w=9?a;a-w-1", "(a-f)/(m-1)", "a-!n",
    };
    private static final String SIGNS = "awifmn0123456789!-()|&<=>+*/%?;";

    private final Random random;
    private final ThoughtsDrip real = new ThoughtsDrip();
    private final Plain plain = new Plain();
    private final List<String> calls = new ArrayList<>();
    private final Due due;
    private int left = 512;
    private boolean sound = true;

    private RandomTests(long seed, Due due) {
        random = new Random(seed);
        this.due = due;
    }

    public static void main(String[] args) {
        int runs = args.length > 0 ? Integer.parseInt(args[0]) : 150;
        long first = args.length > 1 ? Long.parseLong(args[1]) : 1;
        Due due = new Due();
        for (int k = 0; k < runs && due.wrong() == 0; k++) {
            new RandomTests(first + k, due).run();
        }
        due.end("RandomTests");
    }

    private void run() {
        if (random.nextInt(4) > 0) {
            settle();
        }
        while (left > 0 && sound) {
            step(random.nextInt(60));
        }
        if (!sound) {
            System.out.println(String.join("\n", calls));
        }
    }

    /** People who think, most of them in one stack, so that something drips from the start. */
    private void settle() {
        int many = 2 + random.nextInt(5);
        int stack = random.nextInt(3);
        for (int p = 0; p < many; p++) {
            int flat = random.nextInt(5) == 0 ? random.nextInt(24) : 8 * stack + random.nextInt(8);
            int out = random.nextInt(4096) | random.nextInt(4096);
            same("person(" + flat + ", " + out + ")", real.person(flat, out), plain.person(flat, out));
            for (int k = 0; k < 2; k++) {
                int pm = 10 * p + random.nextInt(4);
                int v = random.nextInt(10);
                same("mend(" + pm + ", 2, " + v + ")", real.mend(pm, 2, v), plain.mend(pm, 2, v));
            }
        }
    }

    private void same(String call, long got, long want) {
        calls.add(call + " = " + got);
        left--;
        sound = sound && got == want;
        due.is(call, got, want);
    }

    /** A number from low to high, now and then one a little or far outside. */
    private int pick(int low, int high) {
        int chance = random.nextInt(60);
        if (chance == 0) {
            return low - 1;
        }
        if (chance == 1) {
            return high + 1;
        }
        if (chance == 2) {
            int[] far = {Integer.MIN_VALUE, Integer.MAX_VALUE, -100, 1000000, -11, -2};
            return far[random.nextInt(far.length)];
        }
        return low + random.nextInt(high - low + 1);
    }

    private int one() {
        return pick(0, Math.max(0, plain.now.people.size() - 1));
    }

    private int pm() {
        int one = one();
        return one < 0 || one > 100 ? one : 10 * one + pick(0, 3);
    }

    private int flat() {
        return random.nextBoolean() ? pick(0, 7) : pick(0, 23);
    }

    private int out() {
        int chance = random.nextInt(4);
        return chance == 0 ? 4095 : chance == 1 ? pick(0, 4095) : random.nextInt(4096) | random.nextInt(4096);
    }

    private void step(int kind) {
        switch (kind) {
            case 0: case 1: person(); break;
            case 2: people(); break;
            case 3: case 4: case 5: case 6: case 7: case 8: case 9: mend(); break;
            case 10: read(); break;
            case 11: case 12: tell(); break;
            case 13: case 14: case 15: case 16: case 17: case 18: case 19: case 20: hours(random.nextInt(9)); break;
            case 21: case 22: case 23: basin(); break;
            case 24: case 25: case 26: case 27: case 28: case 29: guesses(random.nextInt(6)); break;
            case 30: case 31: case 32: case 33: case 34: case 35: case 44: case 45: deeds(random.nextInt(10)); break;
            case 36: case 37: case 38: steps(); break;
            case 39: case 40: case 41: case 42: case 43: acts(random.nextInt(6)); break;
            default: shelves(random.nextInt(14)); break;
        }
    }

    private void person() {
        int flat = flat();
        int out = out();
        same("person(" + flat + ", " + out + ")", real.person(flat, out), plain.person(flat, out));
    }

    private void people() {
        if (random.nextInt(3) > 0) {
            int shelf = pick(0, 5);
            same("row(" + shelf + ", 1, 6)", real.row(shelf, 1, 6), plain.row(shelf, 1, 6));
            for (int i = 0; i < 6; i++) {
                put(shelf, i, i % 2 == 0 ? flat() : out());
            }
            int n = pick(1, 3);
            same("people(" + shelf + ", 0, " + n + ")", real.people(shelf, 0, n), plain.people(shelf, 0, n));
            return;
        }
        int shelf = pick(0, 5);
        int i = pick(0, 6);
        int n = pick(1, 6);
        same("people(" + shelf + ", " + i + ", " + n + ")", real.people(shelf, i, n), plain.people(shelf, i, n));
    }

    private void mend() {
        int what = random.nextInt(9) < 3 ? 2 : pick(0, 6);
        int number = what < 2 ? one() : what < 4 ? pm() : what == 4 ? flat() : pick(0, 0);
        int most = what >= 0 && what < 7 ? new int[] {23, 4095, 9, 9999, 9, 9, 11}[what] : 9;
        int v = what == 3 && random.nextBoolean() ? pick(9900, 9999) : what == 4 && random.nextBoolean() ? pick(0, 2) : pick(0, most);
        same("mend(" + number + ", " + what + ", " + v + ")", real.mend(number, what, v), plain.mend(number, what, v));
    }

    private void read() {
        int what = pick(0, 6);
        int number = what < 2 ? one() : what < 4 ? pm() : what == 4 ? flat() : pick(0, 0);
        same("of(" + number + ", " + what + ")", real.of(number, what), plain.of(number, what));
    }

    private void tell() {
        StringBuilder text = new StringBuilder(TEXTS[random.nextInt(TEXTS.length)]);
        int chance = random.nextInt(4);
        if (chance == 0) {
            text.setCharAt(random.nextInt(text.length()), SIGNS.charAt(random.nextInt(SIGNS.length())));
        } else if (chance == 1) {
            text.insert(random.nextInt(text.length() + 1), SIGNS.charAt(random.nextInt(SIGNS.length())));
        } else if (chance == 2) {
            text.append(random.nextBoolean() ? ";" : "+").append(TEXTS[random.nextInt(TEXTS.length)]);
        }
        for (int k = 0; k < text.length(); k++) {
            int letter = random.nextInt(400) == 0 ? pick(0, 255) : text.charAt(k);
            same("feed(" + letter + ")", real.feed(letter), plain.feed(letter));
        }
        same("law()", real.law(), plain.law());
    }

    private void hours(int which) {
        int one = one();
        int pm = pm();
        int n = pick(0, 48);
        int mark = pick(0, 3);
        int hour = pick(0, 11);
        int hf = hour < 0 || hour > 100 ? hour : 100 * hour + flat();
        int what = pick(0, 1);
        switch (which) {
            case 0: same("comes(" + hf + ", " + mark + ", " + what + ")", real.comes(hf, mark, what), plain.comes(hf, mark, what)); break;
            case 1: same("porter(" + hour + ", " + mark + ")", real.porter(hour, mark), plain.porter(hour, mark)); break;
            case 2: same("wet(" + n + ", " + pm + ")", real.wet(n, pm), plain.wet(n, pm)); break;
            case 3: same("most(" + n + ", " + one + ", " + what + ")", real.most(n, one, what), plain.most(n, one, what)); break;
            case 4: same("caught(" + n + ", " + mark + ")", real.caught(n, mark), plain.caught(n, mark)); break;
            case 5: same("first(" + one + ")", real.first(one), plain.first(one)); break;
            case 6: same("from(" + one + ", " + what + ")", real.from(one, what), plain.from(one, what)); break;
            case 7: same("dry(" + one + ", " + what + ")", real.dry(one, what), plain.dry(one, what)); break;
            default: change(pm, what); break;
        }
    }

    private void change(int pm, int way) {
        if (plain.now.people.size() > 5 && random.nextInt(6) > 0) {
            return;
        }
        int other = random.nextInt(3) == 0 ? -1 : one();
        same("change(" + pm + ", " + way + ", " + other + ")", real.change(pm, way, other), plain.change(pm, way, other));
    }

    private void basin() {
        int shelf = pick(0, 5);
        int size = random.nextInt(8) == 0 ? pick(3, 5) : 4;
        int sort = random.nextInt(12) == 0 ? pick(0, 4) : 0;
        same("row(" + shelf + ", " + sort + ", " + size + ")", real.row(shelf, sort, size), plain.row(shelf, sort, size));
        Caught came = came();
        for (int mark = 0; mark < 4; mark++) {
            put(shelf, mark, random.nextInt(12) == 0 ? random.nextInt(20) - 3 : came.porter[mark]);
        }
        int hour = random.nextInt(12) == 0 ? pick(0, 11) : came.hour;
        for (int what = 0; what < 3; what++) {
            same("who(" + shelf + ", " + hour + ", " + what + ")", real.who(shelf, hour, what), plain.who(shelf, hour, what));
        }
        int pm = pm();
        for (int what = 0; what < 2; what++) {
            same("thought(" + shelf + ", " + hour + ", " + pm + ", " + what + ")",
                real.thought(shelf, hour, pm, what), plain.thought(shelf, hour, pm, what));
        }
    }

    private static final class Caught {
        int hour;
        int[] porter;
    }

    private Caught came() {
        Caught came = new Caught();
        came.hour = random.nextInt(12);
        Plain.World w = plain.now.copy();
        w.hour = came.hour;
        came.porter = w.pass();
        return came;
    }

    private void guesses(int which) {
        int one = one();
        int pm = pm();
        int hour = pick(0, 11);
        int part = pick(0, 1);
        switch (which) {
            case 0: {
                int v = pick(0, 999);
                same("rent(" + one + ", " + v + ")", real.rent(one, v), plain.rent(one, v));
                break;
            }
            case 1: same("swap(" + one + ")", real.swap(one), plain.swap(one)); break;
            case 2: same("odds(" + pm + ", " + hour + ", " + part + ")", real.odds(pm, hour, part), plain.odds(pm, hour, part)); break;
            case 3: same("mean(" + pm + ", " + hour + ", " + part + ")", real.mean(pm, hour, part), plain.mean(pm, hour, part)); break;
            case 4: {
                int other = one();
                int ab = one < 0 || one > 100 ? one : 10 * one + Math.max(-10, Math.min(10, other));
                int n = pick(1, 6);
                same("byTurns(" + ab + ", " + n + ", " + part + ")", real.byTurns(ab, n, part), plain.byTurns(ab, n, part));
                break;
            }
            default: {
                int seed = random.nextInt();
                int n = random.nextInt(6) == 0 ? pick(1, 30) : 1 + random.nextInt(3);
                int nm = n < 0 || n > 100 ? n : 100 * n + pick(1, 24);
                same("drawn(" + seed + ", " + nm + ", " + part + ")", real.drawn(seed, nm, part), plain.drawn(seed, nm, part));
                break;
            }
        }
    }

    private void deeds(int which) {
        int one = one();
        int flat = flat();
        switch (which) {
            case 0: case 1: case 8: case 9: hour(); break;
            case 2: same("moves(" + one + ", " + flat + ")", real.moves(one, flat), plain.moves(one, flat)); break;
            case 3: same("awning(" + flat + ")", real.awning(flat), plain.awning(flat)); break;
            case 4: same("wipe(" + one + ")", real.wipe(one), plain.wipe(one)); break;
            case 5: {
                int what = pick(0, 4);
                same("led(" + what + ")", real.led(what), plain.led(what));
                break;
            }
            case 6: same("image()", real.image(), plain.image()); break;
            default: same("back()", real.back(), plain.back()); break;
        }
    }

    private void hour() {
        same("hour()", real.hour(), plain.hour());
        int pm = pm();
        same("of(" + pm + ", 3)", real.of(pm, 3), plain.of(pm, 3));
        same("led(3)", real.led(3), plain.led(3));
    }

    private void steps() {
        int many = 1 + random.nextInt(random.nextInt(20) == 0 ? 45 : 4);
        boolean on = random.nextBoolean();
        for (int k = 0; k < many; k++) {
            if (on) {
                same("redo()", real.redo(), plain.redo());
            } else {
                same("undo()", real.undo(), plain.undo());
            }
        }
        int what = pick(0, 5);
        same("count(" + what + ")", real.count(what), plain.count(what));
    }

    private void acts(int which) {
        int body = pick(0, Math.max(0, plain.bodies.size() - 1));
        switch (which) {
            case 0: case 1: {
                int kind = pick(0, 7);
                same("body(" + kind + ")", real.body(kind), plain.body(kind));
                break;
            }
            case 2: {
                int i = pick(0, 8);
                same("trace(" + i + ")", real.trace(i), plain.trace(i));
                break;
            }
            default: {
                int act = pick(0, 3);
                int x = random.nextInt(4) == 0 ? random.nextInt() : pick(-9, 9);
                same("act(" + body + ", " + act + ", " + x + ")", real.act(body, act, x), plain.act(body, act, x));
                same("count(5)", real.count(5), plain.count(5));
                int i = random.nextInt(9);
                same("trace(" + i + ")", real.trace(i), plain.trace(i));
                break;
            }
        }
    }

    private void put(int shelf, int i, long v) {
        same("put(" + shelf + ", " + i + ", " + v + ")", real.put(shelf, i, v), plain.put(shelf, i, v));
    }

    private void shelves(int which) {
        int shelf = pick(0, 5);
        int other = pick(0, 5);
        switch (which) {
            case 0: {
                int body = pick(-1, Math.max(0, plain.bodies.size() - 1));
                same("keep(" + shelf + ", " + body + ")", real.keep(shelf, body), plain.keep(shelf, body));
                break;
            }
            case 1: case 2: {
                int sort = random.nextBoolean() ? 1 : pick(0, 4);
                int n = random.nextInt(8) == 0 ? pick(0, 60) : pick(0, 8);
                same("row(" + shelf + ", " + sort + ", " + n + ")", real.row(shelf, sort, n), plain.row(shelf, sort, n));
                break;
            }
            case 3: case 4: case 5: put(shelf, pick(0, 8), random.nextInt(3) == 0 ? random.nextLong() : pick(-300, 300)); break;
            case 6: case 7: case 8: {
                int i = pick(0, 8);
                same("element(" + shelf + ", " + i + ")", real.element(shelf, i), plain.element(shelf, i));
                break;
            }
            case 9: case 10: {
                int i = pick(0, 6);
                int j = pick(0, 6);
                int n = pick(0, 4);
                same("shift(" + shelf + ", " + i + ", " + other + ", " + j + ", " + n + ")",
                    real.shift(shelf, i, other, j, n), plain.shift(shelf, i, other, j, n));
                break;
            }
            case 11: case 12: {
                int k = pick(0, 7);
                same("taken(" + shelf + ", " + k + ")", real.taken(shelf, k), plain.taken(shelf, k));
                break;
            }
            default: {
                int what = pick(0, 5);
                same("count(" + what + ")", real.count(what), plain.count(what));
                break;
            }
        }
    }
}

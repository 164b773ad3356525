/** Balconies in stacks whose people drip thoughts, hour by hour, onto those below and to the porter. */
public final class ThoughtsDrip {
    public static final int BAD = -1, NOT = -2, FULL = -3, STATE = -5, VOID = -2000000000;

    private static final int MISSING = -11, OTHER_KIND = -12, NO_PLACE = -13, NEGATIVE = -14;
    private static final int STACKS = 3, FLOORS = 8, FLATS = 24, MARKS = 4, HOURS = 12;
    private static final int MOST_PEOPLE = 6, WETTEST = 9999, WIDEST = 9, LONGEST = 48;
    private static final int TAPE_SIZE = 120, CODE_SIZE = 128, MOST_OPEN = 6;
    private static final int MOST_CHANGES = 40, MOST_BODIES = 50, KINDS = 8, TRACE_SIZE = 24;
    private static final int SHELVES = 6, ROW_SIZE = 60, BYTES = 0, SHORTS = 1, SORTS = 5;
    private static final int LED_HOURS = 0, LED_MOVES = 1, LED_AWNINGS = 2, LED_PORTER = 3, LED_WIPED = 4, LEDS = 5;

    private final Law rule;
    private final Tape tape;
    private final House house;
    private final House kept;
    private final Musing musing;
    private final Changes changes;
    private final Acts acts;
    private final Shelf[] shelves;
    private boolean imaged;

    public ThoughtsDrip() {
        rule = new Law();
        tape = new Tape();
        house = new House(rule);
        kept = new House(rule);
        musing = new Musing(house, new House(rule));
        changes = new Changes();
        acts = new Acts();
        shelves = new Shelf[SHELVES];
        for (int k = 0; k < SHELVES; k++) {
            shelves[k] = new Shelf();
        }
        imaged = false;
    }

    // ---- people (pm: 10 times one of PEOPLE, and the MARK; hf: 100 times the HOUR, and the FLAT;
    // part 0 above, 1 below the line).

    public int person(int flat, int out) {
        if (!mayCome(flat, out)) {
            return BAD;
        }
        return house.people < MOST_PEOPLE ? house.welcome(flat, out) : FULL;
    }

    public int people(int shelf, int i, int n) {
        if (!isShelf(shelf) || n < 1 || n > MOST_PEOPLE) {
            return BAD;
        }
        Shelf from = shelves[shelf];
        if (from.body >= 0 || from.sort >= 0 && from.sort != SHORTS) {
            return OTHER_KIND;
        }
        if (from.sort < 0 || i < 0) {
            return 0;
        }
        int came = 0;
        int at = i;
        while (came < n && at <= from.size - 2 && house.people < MOST_PEOPLE) {
            int flat = (int) from.cells[at];
            int out = (int) from.cells[at + 1];
            if (!mayCome(flat, out)) {
                return came;
            }
            house.welcome(flat, out);
            came++;
            at += 2;
        }
        return came;
    }

    public int mend(int number, int what, int v) {
        if (!isNumber(number, what) || v < 0 || v > House.GREATEST[what]) {
            return BAD;
        }
        int was = house.tells(number, what);
        if (was != v) {
            house.told(number, what, v);
            changes.add(number, what, was, v);
        }
        return was;
    }

    public int of(int number, int what) {
        return isNumber(number, what) ? house.tells(number, what) : BAD;
    }

    public int feed(int letter) {
        if (letter < 0 || letter > 255) {
            return BAD;
        }
        return tape.take(letter) ? tape.size : FULL;
    }

    public int law() {
        boolean fine = tape.read();
        if (fine) {
            rule.adopt(tape);
        }
        int answer = fine ? 1 : -100 - tape.at;
        tape.size = 0;
        return answer;
    }

    // ---- hours in thought.

    public int comes(int hf, int mark, int what) {
        int hour = hf / 100;
        int flat = hf % 100;
        if (hf < 0 || !isHour(hour) || !isFlat(flat) || !isMark(mark) || !isChoice(what)) {
            return BAD;
        }
        return house.reaches(flat / FLOORS, flat % FLOORS - what, mark, house.outAt(hour));
    }

    public int porter(int hour, int mark) {
        return isHour(hour) && isMark(mark) ? house.caughtBy(mark, house.outAt(hour)) : BAD;
    }

    public int wet(int n, int pm) {
        return isSpan(n) && isPm(pm) ? musing.wetBehind(n, pm / 10, pm % 10) : BAD;
    }

    public int most(int n, int one, int what) {
        if (!isSpan(n) || !isOne(one) || !isChoice(what)) {
            return BAD;
        }
        return what == 0 ? musing.allBehind(n, one) : musing.mostBehind(n, one);
    }

    public int caught(int n, int mark) {
        return isSpan(n) && isMark(mark) ? musing.caughtBehind(n, mark) : BAD;
    }

    public int first(int one) {
        return isOne(one) ? musing.firstWetter(one) : BAD;
    }

    public int from(int one, int what) {
        return isOne(one) && isChoice(what) ? musing.pairs(one, what == 1) : BAD;
    }

    public int dry(int one, int what) {
        if (!isOne(one) || !isChoice(what)) {
            return BAD;
        }
        int floors = musing.driest(one);
        return floors < 0 || what == 1 ? floors : Integer.bitCount(floors);
    }

    public int change(int pm, int way, int other) {
        if (!isPm(pm) || !isChoice(way) || other != -1 && !isOne(other)) {
            return BAD;
        }
        int much = musing.deal(pm / 10, pm % 10, way == 1);
        return other < 0 ? much : musing.dealtFlat(other);
    }

    // ---- basins, rents, odds.

    public int who(int shelf, int hour, int what) {
        if (!isShelf(shelf) || !isHour(hour) || what < 0 || what > 2) {
            return BAD;
        }
        int refusal = basinRefusal(shelves[shelf]);
        return refusal != 0 ? refusal : musing.sets(shelves[shelf].cells, what);
    }

    public int thought(int shelf, int hour, int pm, int what) {
        if (!isShelf(shelf) || !isHour(hour) || !isPm(pm) || !isChoice(what)) {
            return BAD;
        }
        int refusal = basinRefusal(shelves[shelf]);
        if (refusal != 0) {
            return refusal;
        }
        return musing.amounts(shelves[shelf].cells, hour, MARKS * (pm / 10) + pm % 10, what == 1);
    }

    public int rent(int one, int v) {
        return isOne(one) && v >= 0 && v <= 999 ? musing.share(one, v) : BAD;
    }

    public int swap(int one) {
        return isOne(one) ? musing.partner(one) : BAD;
    }

    public long odds(int pm, int hour, int part) {
        if (!isPm(pm) || !isHour(hour) || !isChoice(part)) {
            return Long.MIN_VALUE;
        }
        return fraction(musing.overSets(pm / 10, pm % 10, false), 1 << house.people - 1, part);
    }

    public long mean(int pm, int hour, int part) {
        if (!isPm(pm) || !isHour(hour) || !isChoice(part)) {
            return Long.MIN_VALUE;
        }
        return fraction(musing.overSets(pm / 10, pm % 10, true), 1 << house.people - 1, part);
    }

    public int byTurns(int ab, int n, int what) {
        int one = ab / 10;
        int other = ab % 10;
        if (ab < 0 || !isOne(one) || !isOne(other) || one == other || n < 1 || n > 6 || !isChoice(what)) {
            return BAD;
        }
        return musing.turns(one, other, n, what == 1);
    }

    public int drawn(int seed, int nm, int what) {
        int nights = nm / 100;
        int hours = nm % 100;
        if (nm < 0 || nights < 1 || nights > 30 || hours < 1 || hours > 24 || !isChoice(what)) {
            return BAD;
        }
        return musing.draw(seed, nights, hours, what == 1);
    }

    // ---- in deed.

    public int hour() {
        house.passHour();
        return house.hour;
    }

    public int moves(int one, int flat) {
        if (!isOne(one) || !isFlat(flat)) {
            return BAD;
        }
        int was = house.flat[one];
        house.flat[one] = flat;
        house.led[LED_MOVES]++;
        return was;
    }

    public int awning(int flat) {
        if (!isFlat(flat)) {
            return BAD;
        }
        house.awning[flat] = Math.min(WIDEST, house.awning[flat] + 1);
        house.led[LED_AWNINGS]++;
        return house.awning[flat];
    }

    public int wipe(int one) {
        return isOne(one) ? house.dried(one) : BAD;
    }

    public int led(int what) {
        return what >= 0 && what < LEDS ? house.led[what] : BAD;
    }

    public int image() {
        kept.liken(house);
        imaged = true;
        return house.led[LED_HOURS];
    }

    public int back() {
        if (!imaged) {
            return STATE;
        }
        house.layBack(kept);
        return house.led[LED_HOURS];
    }

    public int undo() {
        if (changes.made == 0) {
            return STATE;
        }
        int k = changes.stepBack();
        house.told(changes.number[k], changes.what[k], changes.was[k]);
        return changes.made;
    }

    public int redo() {
        if (changes.undone == 0) {
            return STATE;
        }
        int k = changes.stepOn();
        house.told(changes.number[k], changes.what[k], changes.becomes[k]);
        return changes.undone;
    }

    // ---- acts, shelves.

    public int body(int kind) {
        if (!isKind(kind)) {
            return BAD;
        }
        return acts.bodies < MOST_BODIES ? acts.add(kind) : FULL;
    }

    public int act(int body, int act, int x) {
        if (!isBody(body) || act < 0 || act > Acts.TELLS) {
            acts.begun = 0;
            return 0;
        }
        return acts.acted(act, body, x);
    }

    public int trace(int i) {
        return i >= 0 && i < acts.begun && i < TRACE_SIZE ? acts.began[i] : BAD;
    }

    public int keep(int shelf, int body) {
        if (!isShelf(shelf) || body != -1 && !isBody(body)) {
            return BAD;
        }
        shelves[shelf].holdBody(body);
        return 1;
    }

    public int row(int shelf, int sort, int n) {
        if (!isShelf(shelf) || sort < 0 || sort >= SORTS || n > ROW_SIZE) {
            return BAD;
        }
        if (n < 0) {
            return NEGATIVE;
        }
        shelves[shelf].holdRow(sort, n);
        return 1;
    }

    public int put(int shelf, int i, long v) {
        int refusal = placeRefusal(shelf, i);
        if (refusal != 0) {
            return refusal;
        }
        shelves[shelf].cells[i] = shelves[shelf].fitted(v);
        return 1;
    }

    public long element(int shelf, int i) {
        return placeRefusal(shelf, i) != 0 ? Long.MIN_VALUE : shelves[shelf].cells[i];
    }

    public int shift(int shelf, int i, int other, int j, int n) {
        if (!isShelf(shelf) || !isShelf(other)) {
            return BAD;
        }
        Shelf giver = shelves[shelf];
        Shelf taker = shelves[other];
        if (giver.isEmpty() || taker.isEmpty()) {
            return MISSING;
        }
        if (giver.sort < 0 || giver.sort != taker.sort) {
            return OTHER_KIND;
        }
        if (n < 0 || !giver.spans(i, n) || !taker.spans(j, n)) {
            return NO_PLACE;
        }
        System.arraycopy(giver.cells, i, taker.cells, j, n);
        return n;
    }

    public int taken(int shelf, int k) {
        if (!isShelf(shelf) || !isKind(k)) {
            return BAD;
        }
        Shelf from = shelves[shelf];
        if (from.isEmpty()) {
            return MISSING;
        }
        if (!isBody(from.body)) {
            return OTHER_KIND;
        }
        int kind = acts.kind[from.body];
        return Acts.isUnder(kind, k) ? kind : OTHER_KIND;
    }

    public int count(int what) {
        switch (what) {
            case 0: return house.people;
            case 1: return house.awningsOut();
            case 2: return tape.size;
            case 3: return changes.made;
            case 4: return acts.bodies;
            case 5: return acts.begun;
            default: return BAD;
        }
    }

    // ---- what is as it may be.

    private static boolean isFlat(int flat) {
        return flat >= 0 && flat < FLATS;
    }

    private static boolean isMark(int mark) {
        return mark >= 0 && mark < MARKS;
    }

    private static boolean isHour(int hour) {
        return hour >= 0 && hour < HOURS;
    }

    private static boolean isSpan(int n) {
        return n >= 0 && n <= LONGEST;
    }

    private static boolean isChoice(int what) {
        return what == 0 || what == 1;
    }

    private static boolean isShelf(int shelf) {
        return shelf >= 0 && shelf < SHELVES;
    }

    private static boolean isKind(int kind) {
        return kind >= 0 && kind < KINDS;
    }

    private static boolean mayCome(int flat, int out) {
        return isFlat(flat) && out >= 0 && out <= House.GREATEST[House.OUT];
    }

    private boolean isBody(int body) {
        return body >= 0 && body < acts.bodies;
    }

    private boolean isOne(int one) {
        return one >= 0 && one < house.people;
    }

    private boolean isPm(int pm) {
        return pm >= 0 && isOne(pm / 10) && isMark(pm % 10);
    }

    /** Whether there is such a number of mend(). */
    private boolean isNumber(int number, int what) {
        switch (what) {
            case House.FLAT:
            case House.OUT: return isOne(number);
            case House.THINKS:
            case House.WET: return isPm(number);
            case House.AWNING: return isFlat(number);
            case House.IRON:
            case House.HOUR: return number == 0;
            default: return false;
        }
    }

    /** Why a shelf holds no basin; 0 if it holds one. */
    private static int basinRefusal(Shelf shelf) {
        if (shelf.isEmpty()) {
            return MISSING;
        }
        if (shelf.sort != BYTES) {
            return OTHER_KIND;
        }
        return shelf.size == MARKS ? 0 : BAD;
    }

    /** Why there is no element i on a shelf; 0 if there is. */
    private int placeRefusal(int shelf, int i) {
        if (!isShelf(shelf)) {
            return BAD;
        }
        Shelf at = shelves[shelf];
        if (at.isEmpty()) {
            return MISSING;
        }
        if (at.sort < 0) {
            return OTHER_KIND;
        }
        return i >= 0 && i < at.size ? 0 : NO_PLACE;
    }

    /** A part of a fraction in lowest terms; below its line stands a power of two, so halving is enough. */
    private static long fraction(int above, int below, int part) {
        int over = above;
        int under = below;
        for (int k = 0; k < MOST_PEOPLE && under > 1 && over % 2 == 0; k++) {
            over /= 2;
            under /= 2;
        }
        return part == 0 ? over : under;
    }

    /** The law by which thoughts run on: signs in the order in which they are worked out, or none told yet. */
    static final class Law {
        static final int NUMBER = '#', NAME = '$', LESS = '~', NO = '!', WHEN = '?', COUNTS = ';', NAMES = 6;

        final int[] sign = new int[CODE_SIZE];
        final int[] value = new int[CODE_SIZE];
        final int[] pile = new int[CODE_SIZE];
        final int[] names = new int[NAMES];
        int size;

        Law() {
            size = 0;
        }

        void adopt(Tape tape) {
            System.arraycopy(tape.sign, 0, sign, 0, CODE_SIZE);
            System.arraycopy(tape.value, 0, value, 0, CODE_SIZE);
            size = tape.signs;
        }

        /** How much of a runs on. */
        int lets(int a, int w, int i, int f, int m, int n) {
            int much;
            if (size == 0) {
                much = a - w - i / 3;
            } else {
                names[0] = a;
                names[1] = w;
                names[2] = i;
                names[3] = f;
                names[4] = m;
                names[5] = n;
                much = worth();
            }
            return Math.max(0, Math.min(a, much));
        }

        private int worth() {
            int top = 0;
            boolean leaping = false;
            for (int k = 0; k < size && k < CODE_SIZE; k++) {
                int s = sign[k];
                if (leaping) {
                    // The line's first text was 0: go on behind its end.
                    leaping = s != COUNTS;
                } else if (s == NUMBER || s == NAME) {
                    if (top >= CODE_SIZE || s == NAME && (value[k] < 0 || value[k] >= NAMES)) {
                        return 0;
                    }
                    pile[top] = s == NUMBER ? value[k] : names[value[k]];
                    top++;
                } else if (top < (isSingle(s) ? 1 : 2)) {
                    return 0;
                } else if (s == COUNTS) {
                    return pile[top - 1];
                } else if (s == WHEN) {
                    top--;
                    leaping = pile[top] == 0;
                } else if (s == LESS) {
                    pile[top - 1] = -pile[top - 1];
                } else if (s == NO) {
                    pile[top - 1] = pile[top - 1] == 0 ? 1 : 0;
                } else {
                    top--;
                    pile[top - 1] = joined(s, pile[top - 1], pile[top]);
                }
            }
            return 0;
        }

        private static boolean isSingle(int s) {
            return s == COUNTS || s == WHEN || s == LESS || s == NO;
        }

        private static int joined(int s, int left, int right) {
            switch (s) {
                case '+': return left + right;
                case '-': return left - right;
                case '*': return left * right;
                case '/': return right == 0 ? 0 : left / right;
                case '%': return right == 0 ? 0 : left % right;
                case '<': return left < right ? 1 : 0;
                case '=': return left == right ? 1 : 0;
                case '>': return left > right ? 1 : 0;
                case '&': return left != 0 && right != 0 ? 1 : 0;
                case '|': return left != 0 || right != 0 ? 1 : 0;
                default: return 0;
            }
        }
    }

    /** The tape, and how it is read: each reader goes as far as it can and leaves the place at the fault. */
    static final class Tape {
        static final int MATCHES = 2, LEVELS = 5;

        final int[] bytes = new int[TAPE_SIZE];
        final int[] sign = new int[CODE_SIZE];
        final int[] value = new int[CODE_SIZE];
        int size;
        int at;
        int signs;

        Tape() {
            size = 0;
            at = 0;
            signs = 0;
        }

        boolean take(int letter) {
            if (size >= TAPE_SIZE) {
                return false;
            }
            bytes[size] = letter;
            size++;
            return true;
        }

        boolean read() {
            at = 0;
            signs = 0;
            for (int k = 0; k <= TAPE_SIZE; k++) {
                if (!readLine()) {
                    return false;
                }
                if (at >= size) {
                    return true;
                }
                if (next() != ';') {
                    return false;
                }
                at++;
            }
            return false;
        }

        private int next() {
            return at >= 0 && at < size && at < TAPE_SIZE ? bytes[at] : -1;
        }

        private void emit(int s, int v) {
            if (signs < CODE_SIZE) {
                sign[signs] = s;
                value[signs] = v;
                signs++;
            }
        }

        private boolean readLine() {
            if (!readLevel(0, 0)) {
                return false;
            }
            if (next() == Law.WHEN) {
                at++;
                emit(Law.WHEN, 0);
                if (!readLevel(0, 0)) {
                    return false;
                }
            }
            emit(Law.COUNTS, 0);
            return true;
        }

        /** Reads an E (level 0), A, B, S, P, or what stands between the signs of a P (level 5). */
        private boolean readLevel(int level, int open) {
            if (level >= LEVELS) {
                return readOne(open);
            }
            if (!readLevel(level + 1, open)) {
                return false;
            }
            int most = level == MATCHES ? 1 : TAPE_SIZE;
            for (int k = 0; k < most && levelOf(next()) == level; k++) {
                int s = next();
                at++;
                if (!readLevel(level + 1, open)) {
                    return false;
                }
                emit(s, 0);
            }
            return true;
        }

        private static int levelOf(int s) {
            switch (s) {
                case '|': return 0;
                case '&': return 1;
                case '<':
                case '=':
                case '>': return MATCHES;
                case '+':
                case '-': return 3;
                case '*':
                case '/':
                case '%': return 4;
                default: return -1;
            }
        }

        private boolean readOne(int open) {
            int s = next();
            if (s >= '0' && s <= '9') {
                readNumber();
                return true;
            }
            int name = nameOf(s);
            if (name >= 0) {
                at++;
                emit(Law.NAME, name);
                return true;
            }
            if (s != '(' && s != '!' && s != '-' || open >= MOST_OPEN) {
                return false;
            }
            at++;
            if (s == '(') {
                return readLevel(0, open + 1) && readClose();
            }
            if (!readOne(open + 1)) {
                return false;
            }
            emit(s == '-' ? Law.LESS : s, 0);
            return true;
        }

        private boolean readClose() {
            if (next() != ')') {
                return false;
            }
            at++;
            return true;
        }

        private void readNumber() {
            int number = 0;
            for (int k = 0; k < 4 && next() >= '0' && next() <= '9'; k++) {
                number = number * 10 + next() - '0';
                at++;
            }
            emit(Law.NUMBER, number);
        }

        private static int nameOf(int s) {
            switch (s) {
                case 'a': return 0;
                case 'w': return 1;
                case 'i': return 2;
                case 'f': return 3;
                case 'm': return 4;
                case 'n': return 5;
                default: return -1;
            }
        }
    }

    /** Balconies and people, as they are, as an image keeps them, or as they are thought to be. */
    static final class House {
        static final int FLAT = 0, OUT = 1, THINKS = 2, WET = 3, AWNING = 4, IRON = 5, HOUR = 6;
        static final int[] GREATEST = {23, 4095, 9, 9999, 9, 9, 11};

        final Law law;
        final int[] flat = new int[MOST_PEOPLE];
        final int[] out = new int[MOST_PEOPLE];
        final int[] thinks = new int[MOST_PEOPLE * MARKS];
        final int[] wet = new int[MOST_PEOPLE * MARKS];
        final int[] awning = new int[FLATS];
        final int[] led = new int[LEDS];
        int people;
        int iron;
        int hour;

        House(Law law) {
            this.law = law;
            people = 0;
            iron = 0;
            hour = 0;
        }

        void liken(House other) {
            System.arraycopy(other.flat, 0, flat, 0, MOST_PEOPLE);
            System.arraycopy(other.out, 0, out, 0, MOST_PEOPLE);
            System.arraycopy(other.thinks, 0, thinks, 0, MOST_PEOPLE * MARKS);
            System.arraycopy(other.wet, 0, wet, 0, MOST_PEOPLE * MARKS);
            System.arraycopy(other.awning, 0, awning, 0, FLATS);
            System.arraycopy(other.led, 0, led, 0, LEDS);
            people = other.people;
            iron = other.iron;
            hour = other.hour;
        }

        /** Only what an image keeps; who came since stays as he is. */
        void layBack(House image) {
            int then = Math.min(image.people, MOST_PEOPLE);
            System.arraycopy(image.flat, 0, flat, 0, then);
            System.arraycopy(image.wet, 0, wet, 0, then * MARKS);
            System.arraycopy(image.awning, 0, awning, 0, FLATS);
            System.arraycopy(image.led, 0, led, 0, LEDS);
            hour = image.hour;
        }

        /** The number of one who comes, -1 if there is no room. */
        int welcome(int where, int when) {
            if (people >= MOST_PEOPLE) {
                return -1;
            }
            flat[people] = where;
            out[people] = when;
            people++;
            return people - 1;
        }

        int tells(int number, int what) {
            switch (what) {
                case FLAT: return flat[number];
                case OUT: return out[number];
                case THINKS: return thinks[cell(number)];
                case WET: return wet[cell(number)];
                case AWNING: return awning[number];
                case IRON: return iron;
                default: return hour;
            }
        }

        void told(int number, int what, int v) {
            switch (what) {
                case FLAT: flat[number] = v; break;
                case OUT: out[number] = v; break;
                case THINKS: thinks[cell(number)] = v; break;
                case WET: wet[cell(number)] = v; break;
                case AWNING: awning[number] = v; break;
                case IRON: iron = v; break;
                default: hour = v; break;
            }
        }

        private static int cell(int pm) {
            return pm / 10 * MARKS + pm % 10;
        }

        /** Who is out at an hour, by what is told: a bit each. */
        int outAt(int when) {
            int set = 0;
            for (int p = 0; p < people; p++) {
                set |= (out[p] >> when & 1) << p;
            }
            return set;
        }

        /** What comes to a floor of a stack with a set of people out; floor -1 is the porter's. */
        int reaches(int stack, int floor, int mark, int set) {
            int much = 0;
            for (int f = FLOORS - 1; f > floor && f >= 0; f--) {
                int where = stack * FLOORS + f;
                int n = 0;
                for (int p = 0; p < people; p++) {
                    if (flat[p] == where && (set >> p & 1) != 0) {
                        much += thinks[p * MARKS + mark];
                        n++;
                    }
                }
                // Of nothing nothing runs on, whatever the law is.
                much = much == 0 ? 0 : law.lets(much, awning[where], iron, f, mark, n);
            }
            return much;
        }

        int caughtBy(int mark, int set) {
            int much = 0;
            for (int stack = 0; stack < STACKS; stack++) {
                much += reaches(stack, -1, mark, set);
            }
            return much;
        }

        /** By how much one gets wet in an hour with a set of people out, were there no end to it. */
        int drips(int one, int mark, int set) {
            if ((set >> one & 1) == 0) {
                return 0;
            }
            int comes = reaches(flat[one] / FLOORS, flat[one] % FLOORS, mark, set);
            return Math.max(0, comes - awning[flat[one]]);
        }

        /** How much wetter one may still get. */
        int room(int one, int mark) {
            return WETTEST - wet[one * MARKS + mark];
        }

        void passHour() {
            int set = outAt(hour);
            for (int mark = 0; mark < MARKS; mark++) {
                for (int p = 0; p < people; p++) {
                    wet[p * MARKS + mark] += Math.min(room(p, mark), drips(p, mark, set));
                }
                led[LED_PORTER] += caughtBy(mark, set);
            }
            hour = (hour + 1) % HOURS;
            led[LED_HOURS]++;
        }

        /** Wipes one dry; how wet he was. */
        int dried(int one) {
            int all = 0;
            for (int mark = 0; mark < MARKS; mark++) {
                all += wet[one * MARKS + mark];
                wet[one * MARKS + mark] = 0;
            }
            led[LED_WIPED] += all;
            return all;
        }

        int awningsOut() {
            int many = 0;
            for (int k = 0; k < FLATS; k++) {
                many += awning[k] > 0 ? 1 : 0;
            }
            return many;
        }
    }

    /** What is asked in thought: it reads the house as it is, and changes only the one thought of. */
    static final class Musing {
        static final int EVERYBODY = 63, DEALINGS = 720;

        final House house;
        final House other;
        final int[] whose = new int[MOST_PEOPLE];
        final int[] dealt = new int[MOST_PEOPLE];
        final int[] gained = new int[MOST_PEOPLE * MARKS];
        final long[] weights = new long[MOST_PEOPLE];

        Musing(House house, House other) {
            this.house = house;
            this.other = other;
        }

        private int outIn(int hours) {
            return house.outAt((house.hour + hours) % HOURS);
        }

        int wetBehind(int n, int one, int mark) {
            int gain = 0;
            for (int k = 0; k < n; k++) {
                gain += house.drips(one, mark, outIn(k));
            }
            return house.wet[one * MARKS + mark] + Math.min(house.room(one, mark), gain);
        }

        int allBehind(int n, int one) {
            int all = 0;
            for (int mark = 0; mark < MARKS; mark++) {
                all += wetBehind(n, one, mark);
            }
            return all;
        }

        int mostBehind(int n, int one) {
            int best = NOT;
            int greatest = 0;
            for (int mark = 0; mark < MARKS; mark++) {
                int much = wetBehind(n, one, mark);
                if (much > greatest) {
                    greatest = much;
                    best = mark;
                }
            }
            return best;
        }

        int caughtBehind(int n, int mark) {
            int all = 0;
            for (int k = 0; k < n; k++) {
                all += house.caughtBy(mark, outIn(k));
            }
            return all;
        }

        int firstWetter(int one) {
            for (int n = 1; n <= LONGEST; n++) {
                for (int mark = 0; mark < MARKS; mark++) {
                    if (house.room(one, mark) > 0 && house.drips(one, mark, outIn(n - 1)) > 0) {
                        return n;
                    }
                }
            }
            return NOT;
        }

        /** How much wetter of the marks from one to another one gets in 12 hours, if but some are there. */
        private static int wetter(House house, int one, int mark, int last, int there) {
            int all = 0;
            for (int m = mark; m <= last; m++) {
                int room = house.room(one, m);
                int gain = 0;
                for (int when = 0; when < HOURS && gain < room; when++) {
                    gain += house.drips(one, m, house.outAt(when) & there);
                }
                all += Math.min(room, gain);
            }
            return all;
        }

        /** Whom one alone makes wetter (reach), or who alone makes one wetter: a bit each. */
        int pairs(int one, boolean reach) {
            int bits = 0;
            for (int p = 0; p < house.people; p++) {
                if (p != one && wetter(house, reach ? p : one, 0, MARKS - 1, 1 << one | 1 << p) > 0) {
                    bits |= 1 << p;
                }
            }
            return bits;
        }

        /** The floors whose awnings keep one dry, by fewest and least; NOT. */
        int driest(int one) {
            int stack = house.flat[one] / FLOORS;
            int best = NOT;
            int fewest = FLOORS + 1;
            other.liken(house);
            for (int floors = 0; floors < 1 << FLOORS; floors++) {
                int many = Integer.bitCount(floors);
                if (many < fewest) {
                    spread(stack, floors);
                    if (wetter(other, one, 0, MARKS - 1, EVERYBODY) == 0) {
                        fewest = many;
                        best = floors;
                    }
                }
            }
            return best;
        }

        private void spread(int stack, int floors) {
            for (int f = 0; f < FLOORS; f++) {
                int where = stack * FLOORS + f;
                other.awning[where] = (floors >> f & 1) != 0 ? WIDEST : house.awning[where];
            }
        }

        /** How much wetter one gets by the first best dealing of flats, which is kept in dealt. */
        int deal(int one, int mark, boolean most) {
            int best = 0;
            other.liken(house);
            for (int p = 0; p < MOST_PEOPLE; p++) {
                whose[p] = p;
            }
            for (int k = 0; k < DEALINGS; k++) {
                for (int p = 0; p < house.people; p++) {
                    other.flat[p] = house.flat[whose[p]];
                }
                int much = wetter(other, one, mark, mark, EVERYBODY);
                if (k == 0 || (most ? much > best : much < best)) {
                    best = much;
                    System.arraycopy(other.flat, 0, dealt, 0, MOST_PEOPLE);
                }
                if (!nextDealing()) {
                    return best;
                }
            }
            return best;
        }

        int dealtFlat(int one) {
            return dealt[one];
        }

        /** The next order of whose, by its first place that differs; false behind the last one. */
        private boolean nextDealing() {
            int last = house.people - 1;
            int at = last - 1;
            while (at >= 0 && whose[at] > whose[at + 1]) {
                at--;
            }
            if (at < 0) {
                return false;
            }
            int with = last;
            while (with > at && whose[with] < whose[at]) {
                with--;
            }
            exchange(at, with);
            for (int low = at + 1, high = last; low < high; low++, high--) {
                exchange(low, high);
            }
            return true;
        }

        private void exchange(int a, int b) {
            int x = whose[a];
            whose[a] = whose[b];
            whose[b] = x;
        }

        private static boolean fills(House house, long[] basin, int set) {
            for (int mark = 0; mark < MARKS; mark++) {
                if (house.caughtBy(mark, set) != basin[mark]) {
                    return false;
                }
            }
            return true;
        }

        /** The sets that fill a basin: how many, the least, who is in all. */
        int sets(long[] basin, int what) {
            int many = 0;
            int least = NOT;
            int all = EVERYBODY;
            for (int set = 0; set < 1 << house.people; set++) {
                if (fills(house, basin, set)) {
                    least = many == 0 ? set : least;
                    all &= set;
                    many++;
                }
            }
            if (what == 2) {
                return many == 0 ? 0 : all;
            }
            return what == 1 ? least : many;
        }

        /** How many amounts that one thinks of a mark fill a basin, or the least of them. */
        int amounts(long[] basin, int when, int cell, boolean least) {
            int many = 0;
            int first = NOT;
            int set = house.outAt(when);
            other.liken(house);
            for (int v = 0; v <= House.GREATEST[House.THINKS]; v++) {
                other.thinks[cell] = v;
                if (fills(other, basin, set)) {
                    first = many == 0 ? v : first;
                    many++;
                }
            }
            return least ? first : many;
        }

        /**
         * One's share of v. All weights are brought onto the product of what is below their lines:
         * at most 433 * 865 * 1297 * 1729 * 2161, six in a stack, so that 999 times it is a long.
         */
        int share(int one, int v) {
            long product = 1;
            for (int p = 0; p < house.people; p++) {
                weights[p] = 1 + comesInAll(house.flat[p]);
                product *= weights[p];
            }
            long all = 0;
            for (int p = 0; p < house.people; p++) {
                all += weights[p] == 0 ? 0 : product / weights[p];
            }
            return all == 0 || weights[one] == 0 ? 0 : (int) (v * (product / weights[one]) / all);
        }

        private int comesInAll(int where) {
            int all = 0;
            for (int when = 0; when < HOURS; when++) {
                int set = house.outAt(when);
                for (int mark = 0; mark < MARKS; mark++) {
                    all += house.reaches(where / FLOORS, where % FLOORS, mark, set);
                }
            }
            return all;
        }

        int partner(int one) {
            int mine = wetter(house, one, 0, MARKS - 1, EVERYBODY);
            for (int p = 0; p < house.people; p++) {
                if (p != one) {
                    int his = wetter(house, p, 0, MARKS - 1, EVERYBODY);
                    other.liken(house);
                    other.flat[one] = house.flat[p];
                    other.flat[p] = house.flat[one];
                    int mineThen = wetter(other, one, 0, MARKS - 1, EVERYBODY);
                    int hisThen = wetter(other, p, 0, MARKS - 1, EVERYBODY);
                    if (mineThen <= mine && hisThen <= his && (mineThen < mine || hisThen < his)) {
                        return p;
                    }
                }
            }
            return NOT;
        }

        /** Over all sets with one in them: in how many something comes to him, or how much in all. */
        int overSets(int one, int mark, boolean much) {
            int where = house.flat[one];
            int all = 0;
            for (int set = 0; set < 1 << house.people; set++) {
                if ((set >> one & 1) != 0) {
                    int comes = house.reaches(where / FLOORS, where % FLOORS, mark, set);
                    all += much ? comes : Math.min(1, comes);
                }
            }
            return all;
        }

        /**
         * What one does in an hour changes nothing of another hour, and the end of WET only cuts what all
         * hours give: so each does his best hour by hour.
         */
        int turns(int one, int foe, int n, boolean outFirst) {
            int mark = favourite(foe);
            int room = house.room(one, mark);
            int all = 0;
            int start = 0;
            for (int k = 0; k < n; k++) {
                int asked = k % 2 == 0 ? one : foe;
                int set = outIn(k);
                int goes = house.drips(one, mark, set | 1 << asked);
                int stays = house.drips(one, mark, set & ~(1 << asked));
                start = k == 0 ? goes : start;
                all += asked == one ? Math.max(goes, stays) : Math.min(goes, stays);
            }
            if (outFirst) {
                return Math.min(room, all) > Math.min(room, all - start) ? 1 : 0;
            }
            return Math.min(room, all);
        }

        private int favourite(int one) {
            int best = 0;
            for (int mark = 1; mark < MARKS; mark++) {
                if (house.thinks[one * MARKS + mark] > house.thinks[one * MARKS + best]) {
                    best = mark;
                }
            }
            return best;
        }

        int draw(int seed, int nights, int hours, boolean porter) {
            int z = seed;
            int wetter = 0;
            int caught = 0;
            for (int night = 0; night < nights; night++) {
                for (int k = 0; k < MOST_PEOPLE * MARKS; k++) {
                    gained[k] = 0;
                }
                for (int h = 0; h < hours; h++) {
                    int set = 0;
                    for (int p = 0; p < house.people; p++) {
                        z = z * 1103515245 + 12345;
                        set |= (z >>> 8) % 2 << p;
                    }
                    if (porter) {
                        caught += caughtOfAll(set);
                    } else {
                        soak(set);
                    }
                }
                wetter += gainedInAll();
            }
            return porter ? caught : wetter;
        }

        private int caughtOfAll(int set) {
            int all = 0;
            for (int mark = 0; mark < MARKS; mark++) {
                all += house.caughtBy(mark, set);
            }
            return all;
        }

        private void soak(int set) {
            for (int p = 0; p < house.people; p++) {
                for (int mark = 0; mark < MARKS; mark++) {
                    gained[p * MARKS + mark] += house.drips(p, mark, set);
                }
            }
        }

        private int gainedInAll() {
            int all = 0;
            for (int p = 0; p < house.people; p++) {
                for (int mark = 0; mark < MARKS; mark++) {
                    all += Math.min(house.room(p, mark), gained[p * MARKS + mark]);
                }
            }
            return all;
        }
    }

    /** The changes, the latest last: those made, and behind them those undone. */
    static final class Changes {
        final int[] number = new int[MOST_CHANGES];
        final int[] what = new int[MOST_CHANGES];
        final int[] was = new int[MOST_CHANGES];
        final int[] becomes = new int[MOST_CHANGES];
        int made;
        int undone;

        Changes() {
            made = 0;
            undone = 0;
        }

        void add(int which, int sort, int old, int now) {
            if (made >= MOST_CHANGES) {
                forgetOldest(number);
                forgetOldest(what);
                forgetOldest(was);
                forgetOldest(becomes);
                made = MOST_CHANGES - 1;
            }
            number[made] = which;
            what[made] = sort;
            was[made] = old;
            becomes[made] = now;
            made++;
            undone = 0;
        }

        private static void forgetOldest(int[] list) {
            System.arraycopy(list, 1, list, 0, MOST_CHANGES - 1);
        }

        int stepBack() {
            made--;
            undone++;
            return made;
        }

        int stepOn() {
            made++;
            undone--;
            return made - 1;
        }
    }

    /** A shelf: a body by its number, a row, or nothing. What a row keeps fits its sort already. */
    static final class Shelf {
        final long[] cells = new long[ROW_SIZE];
        int body;
        int sort;
        int size;

        Shelf() {
            body = -1;
            sort = -1;
            size = 0;
        }

        boolean isEmpty() {
            return body < 0 && sort < 0;
        }

        boolean spans(int i, int n) {
            return i >= 0 && i <= size - n;
        }

        void holdBody(int which) {
            body = which;
            sort = -1;
            size = 0;
        }

        void holdRow(int which, int n) {
            body = -1;
            sort = which;
            size = n;
            for (int k = 0; k < ROW_SIZE; k++) {
                cells[k] = 0;
            }
        }

        long fitted(long v) {
            switch (sort) {
                case 0: return (byte) v;
                case 1: return (short) v;
                case 2: return (int) v;
                case 4: return v != 0 ? 1 : 0;
                default: return v;
            }
        }
    }

    /** The bodies by their kinds, and how they act. */
    static final class Acts {
        static final int FALLS = 0, RUNS = 1, THINKS = 2, TELLS = 3, DEEPEST = 40;

        /** The kind above each; DROP has none. */
        static final int[] ABOVE = {-1, 0, 0, 2, 1, 3, 0, 6};

        /** By act and kind the body that the kind itself has; 0 if none. What DROP's interfaces have stands with it. */
        static final int[] OWN = {
            1, 20, 0, 0, 0, 0, 70, 81,
            10, 0, 30, 41, 0, 0, 0, 80,
            11, 0, 0, 40, 0, 60, 0, 0,
            2, 0, 0, 0, 50, 61, 0, 0,
        };

        final int[] kind = new int[MOST_BODIES];
        final int[] began = new int[TRACE_SIZE];
        int bodies;
        int begun;

        Acts() {
            bodies = 0;
            begun = 0;
        }

        int add(int which) {
            kind[bodies] = which;
            bodies++;
            return bodies - 1;
        }

        static boolean isUnder(int which, int top) {
            int at = which;
            for (int k = 0; k < KINDS && at >= 0 && at < KINDS; k++) {
                if (at == top) {
                    return true;
                }
                at = ABOVE[at];
            }
            return false;
        }

        /** The nearest kind from one on up that has a body for an act; -1 if none has. */
        private static int owner(int act, int from) {
            int at = from;
            for (int k = 0; k < KINDS && at >= 0 && at < KINDS; k++) {
                if (OWN[act * KINDS + at] != 0) {
                    return at;
                }
                at = ABOVE[at];
            }
            return -1;
        }

        int acted(int act, int n, int x) {
            begun = 0;
            return does(act, kind[n], n, x, 0);
        }

        /** Body n acts by what a kind, or the next above that has something for the act, does. */
        private int does(int act, int from, int n, int x, int depth) {
            int at = owner(act, from);
            if (at < 0 || depth > DEEPEST) {
                return 0;
            }
            int number = OWN[act * KINDS + at];
            if (begun < TRACE_SIZE) {
                began[begun] = number;
            }
            begun++;
            return plays(number, ABOVE[at], n, x, depth + 1);
        }

        private int plays(int number, int up, int n, int x, int depth) {
            int own = kind[n];
            switch (number) {
                case 1: return x + n;
                case 2: return does(RUNS, own, n, x, depth) - does(THINKS, own, n, 1, depth);
                case 10: return does(FALLS, own, n, x, depth) * 2;
                case 11: return x ^ n;
                case 20: return does(FALLS, up, n, x, depth) + 3;
                case 30: return -does(RUNS, up, n, x, depth);
                case 40: return does(THINKS, up, n, x, depth) * 3;
                case 41: return does(RUNS, up, n, x + 1, depth);
                case 50: return does(TELLS, up, n, x, depth) ^ 5;
                case 60: return does(THINKS, up, n, x, depth) - does(FALLS, own, n, 2, depth);
                case 61: return does(TELLS, up, n, x, depth) + 1;
                case 70: return does(FALLS, up, n, x, depth) * 2;
                case 80: return does(RUNS, up, n, x, depth) + does(THINKS, own, n, 2, depth);
                case 81: return does(FALLS, up, n, x, depth) - 1;
                default: return 0;
            }
        }
    }
}

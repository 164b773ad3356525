/** What the document's fifth block says of BODIES, ACTS, SHELVES and ROWS: each sentence's edges, worked out by hand. */
public final class ShelfEdgeTests extends Asking {
    public static void main(String[] args) {
        ShelfEdgeTests t = new ShelfEdgeTests();
        t.fiftyBodies();
        t.kinds();
        t.numbersInActs();
        t.intsThatWrap();
        t.noSuchBodyOrAct();
        t.traceOfTheLatest();
        t.shelvesAtFirst();
        t.keepEach();
        t.rowSizes();
        t.rowZeroAtFirst();
        t.lowestBits();
        t.booleans();
        t.places();
        t.elementRefused();
        t.shiftAsBefore();
        t.shiftPlaces();
        t.shiftRefused();
        t.takenFor();
        t.peopleFromARow();
        t.peopleEnds();
        t.peopleNotAsTheyMayBe();
        t.peopleFull();
        t.peopleRefused();
        t.counts();
        t.due.end("ShelfEdgeTests");
    }

    private void fiftyBodies() {
        about = "BODIES 0 .. 49";
        ThoughtsDrip x = new ThoughtsDrip();
        for (int k = 0; k < 50; k++) {
            is("before it is kept", x.act(k, 2, 1000), 0);
            is("not to be kept on a SHELF", x.keep(0, k), BAD);
            is("a BODY", x.body(7 - k % 8), k);
            is("how many", x.count(4), k + 1);
        }
        is("a 51st", x.body(0), FULL);
        is("a 51st of KIND 8", x.body(8), BAD);
        is("a 51st of KIND -1", x.body(-1), BAD);
        is("50", x.count(4), 50);
        is("no BODY 50", x.keep(0, 50), BAD);
        is("BODY 49: KIND 6 thinks", x.act(49, 2, 0), 49);
        is("BODY 49 on a SHELF", x.keep(0, 49), 1);
        is("its KIND", x.taken(0, 6), 6);
    }

    private void kinds() {
        about = "KINDS 0 .. 7";
        ThoughtsDrip x = new ThoughtsDrip();
        is("-1", x.body(-1), BAD);
        is("8", x.body(8), BAD);
        is("none", x.count(4), 0);
        // Of x = 1 by number 0: falls, runs, thinks, tells.
        int[][] want = {
            {1, 2, 1, 1},
            {4, 8, 1, 7},
            {1, -2, 1, -3},
            {1, -4, 3, -7},
            {4, 8, 1, 2},
            {1, -4, 1, -4},
            {2, 4, 1, 3},
            {1, 4, 1, 3},
        };
        for (int kind = 0; kind < 8; kind++) {
            ThoughtsDrip y = new ThoughtsDrip();
            is("kind " + kind, y.body(kind), 0);
            for (int act = 0; act < 4; act++) {
                is("kind " + kind + ", act " + act, y.act(0, act, 1), want[kind][act]);
            }
        }
    }

    private void numbersInActs() {
        about = "n its number";
        ThoughtsDrip x = new ThoughtsDrip();
        for (int k = 0; k < 50; k++) {
            x.body(0);
            is("falls: x + n", x.act(k, 0, 7), 7 + k);
            is("runs: falls(x) * 2", x.act(k, 1, 7), 14 + 2 * k);
            is("thinks: x ^ n", x.act(k, 2, 7), 7 ^ k);
            is("tells: runs(x) - thinks(1)", x.act(k, 3, 7), 14 + 2 * k - (1 ^ k));
        }
    }

    private void intsThatWrap() {
        about = "x (an int that wraps)";
        ThoughtsDrip x = new ThoughtsDrip();
        for (int kind = 0; kind < 8; kind++) {
            x.body(kind);
        }
        x.body(0);
        is("x + n past the greatest", x.act(8, 0, GREATEST), LEAST + 7);
        is("twice the greatest", x.act(0, 1, GREATEST), -2);
        is("twice the least", x.act(0, 1, LEAST), 0);
        is("FERN: 3 more than the greatest and 1", x.act(1, 0, GREATEST), LEAST + 3);
        is("BASIN: the least stays the least", x.act(2, 1, 1073741822), LEAST);
        is("PORTER: x + 1 wraps", x.act(3, 1, GREATEST), -2 * (LEAST + 3));
        is("PORTER: thrice", x.act(3, 2, GREATEST - 3), (GREATEST) * 3);
        is("DROP: tells less than the least", x.act(0, 3, 1 << 30), GREATEST);
        is("LAMP: twice", x.act(6, 0, 1 << 30), LEAST + 12);
        is("STRING: 1 less than the least", x.act(7, 0, (1 << 30) - 7), GREATEST);
        is("NURSE: ^ 5", x.act(4, 3, LEAST), ((4 + 3) * 2 - (1 ^ 4)) ^ 5);
    }

    private void noSuchBodyOrAct() {
        about = "act(): 0, and no TRACE then: no such BODY, ACT";
        int[][] wrong = {{-1, 0}, {1, 0}, {50, 0}, {LEAST, 0}, {GREATEST, 0}, {0, -1}, {0, 4}, {0, LEAST}, {0, GREATEST}, {1, 4}};
        for (int[] w : wrong) {
            ThoughtsDrip x = new ThoughtsDrip();
            x.body(5);
            x.act(0, 3, 5);
            is("ten ran", x.count(5), 10);
            is("body " + w[0] + ", act " + w[1], x.act(w[0], w[1], 5), 0);
            is("none ran", x.count(5), 0);
            for (int i = -1; i < 11; i++) {
                is("no TRACE", x.trace(i), BAD);
            }
            is("it acts again", x.act(0, 0, 5), 5);
            is("TRACE again", x.trace(0), 1);
        }
    }

    private void traceOfTheLatest() {
        about = "THE TRACE: numbers of the bodies that ran in the latest act(), as they began";
        ThoughtsDrip x = new ThoughtsDrip();
        is("none at first", x.trace(0), BAD);
        is("none at first", x.count(5), 0);
        int[][][] want = {
            {{1}, {10, 1}, {11}, {2, 10, 1, 11}},
            {{20, 1}, {10, 20, 1}, {11}, {2, 10, 20, 1, 11}},
            {{1}, {30, 10, 1}, {11}, {2, 30, 10, 1, 11}},
            {{1}, {41, 30, 10, 1}, {40, 11}, {2, 41, 30, 10, 1, 40, 11}},
            {{20, 1}, {10, 20, 1}, {11}, {50, 2, 10, 20, 1, 11}},
            {{1}, {41, 30, 10, 1}, {60, 40, 11, 1}, {61, 2, 41, 30, 10, 1, 60, 40, 11, 1}},
            {{70, 1}, {10, 70, 1}, {11}, {2, 10, 70, 1, 11}},
            {{81, 70, 1}, {80, 10, 81, 70, 1, 11}, {11}, {2, 80, 10, 81, 70, 1, 11, 11}},
        };
        for (int kind = 0; kind < 8; kind++) {
            x = new ThoughtsDrip();
            x.body(kind);
            for (int act = 3; act >= 0; act--) {
                x.act(0, act, 1);
                int[] ran = want[kind][act];
                is("kind " + kind + ", act " + act, x.count(5), ran.length);
                for (int i = 0; i < 24; i++) {
                    is("kind " + kind + ", act " + act + ", " + i, x.trace(i), i < ran.length ? ran[i] : BAD);
                }
            }
        }
        x.body(8);
        x.keep(0, 0);
        x.taken(0, 0);
        is("nothing but act() changes it", x.trace(0), 81);
        is("-1", x.trace(-1), BAD);
    }

    private void shelvesAtFirst() {
        about = "SHELVES 0 .. 5 each hold nothing (at first)";
        ThoughtsDrip x = new ThoughtsDrip();
        for (int shelf = 0; shelf < 6; shelf++) {
            is("taken", x.taken(shelf, 0), NONE);
            is("put", x.put(shelf, 0, 1), NONE);
            is("element", x.element(shelf, 0), Long.MIN_VALUE);
            is("shift", x.shift(shelf, 0, shelf, 0, 0), NONE);
            is("who", x.who(shelf, 0, 0), NONE);
            is("people", x.people(shelf, 0, 1), 0);
            is("holds nothing: 1", x.keep(shelf, -1), 1);
        }
        is("SHELF 6", x.taken(6, 0), BAD);
        is("SHELF 6", x.put(6, 0, 1), BAD);
        is("SHELF -1", x.shift(-1, 0, 0, 0, 0), BAD);
    }

    private void keepEach() {
        about = "keep(): a SHELF holds nothing (body -1), or a BODY";
        ThoughtsDrip x = new ThoughtsDrip();
        is("no BODY yet", x.keep(0, 0), BAD);
        x.body(1);
        x.body(2);
        is("the same BODY on two", x.keep(0, 1) + x.keep(5, 1), 2);
        is("there", x.taken(0, 2) + x.taken(5, 2), 4);
        is("another in its place", x.keep(0, 0), 1);
        is("there", x.taken(0, 1), 1);
        is("not on the other", x.taken(5, 2), 2);
        is("a ROW in its place", x.row(0, 0, 4), 1);
        is("no BODY", x.taken(0, 1), KIND);
        is("a ROW", x.put(0, 3, 1), 1);
        is("a BODY in its place", x.keep(0, 0), 1);
        is("no ROW", x.put(0, 3, 1), KIND);
        is("nothing in its place", x.keep(0, -1), 1);
        is("nothing", x.taken(0, 1), NONE);
        is("a ROW", x.row(0, 3, 1), 1);
        is("nothing in its place", x.keep(0, -1), 1);
        is("nothing", x.put(0, 0, 1), NONE);
        is("no such BODY", x.keep(5, 2), BAD);
        is("no such BODY", x.keep(5, -2), BAD);
        is("it stays", x.taken(5, 2), 2);
    }

    private void rowSizes() {
        about = "row(): of 0 .. 60 elements; BAD (sort, n above 60); -14";
        ThoughtsDrip x = new ThoughtsDrip();
        for (int sort = 0; sort < 5; sort++) {
            is("of 60", x.row(sort, sort, 60), 1);
            is("the last", x.put(sort, 59, 1), 1);
            is("behind it", x.put(sort, 60, 1), PLACE);
            is("61", x.row(sort, sort, 61), BAD);
            is("far above", x.row(sort, sort, GREATEST), BAD);
            is("-1", x.row(sort, sort, -1), SIZE);
            is("far below", x.row(sort, sort, LEAST), SIZE);
            is("it stays", x.element(sort, 59), 1);
            is("of 0", x.row(sort, sort, 0), 1);
            is("no first", x.put(sort, 0, 1), PLACE);
            is("of 1", x.row(sort, sort, 1), 1);
            is("the first", x.put(sort, 0, 1), 1);
            is("no second", x.put(sort, 1, 1), PLACE);
        }
        is("sort 5", x.row(5, 5, 1), BAD);
        is("sort -1", x.row(5, -1, 1), BAD);
        is("sort 5 and -1: BAD is named first", x.row(5, 5, -1), BAD);
        is("SHELF 6 and -1: BAD is named first", x.row(6, 0, -1), BAD);
        is("nothing is there", x.taken(5, 0), NONE);
    }

    private void rowZeroAtFirst() {
        about = "ROW: 0 at first (false)";
        ThoughtsDrip x = new ThoughtsDrip();
        for (int sort = 0; sort < 5; sort++) {
            x.row(0, sort, 60);
            for (int i = 0; i < 60; i += 59) {
                is("sort " + sort, x.element(0, i), 0);
                x.put(0, i, -1);
            }
        }
        for (int n = 1; n < 5; n++) {
            x.row(0, 3, n);
            for (int i = 0; i < n; i++) {
                is("again a new one", x.element(0, i), 0);
                x.put(0, i, 7);
            }
        }
    }

    private void lowestBits() {
        about = "what is put in keeps its lowest bits";
        long[] given = {127, 128, 255, 256, -128, -129, 32767, 32768, 65535, 65536, -32768, -32769, 2147483647L, 2147483648L,
            4294967295L, 4294967296L, -2147483648L, -2147483649L, Long.MAX_VALUE, Long.MIN_VALUE, -1, 0};
        ThoughtsDrip x = new ThoughtsDrip();
        for (int sort = 0; sort < 4; sort++) {
            x.row(sort, sort, 3);
            for (long v : given) {
                long want = sort == 0 ? (byte) v : sort == 1 ? (short) v : sort == 2 ? (int) v : v;
                is("put", x.put(sort, 1, v), 1);
                is(v + " in sort " + sort, x.element(sort, 1), want);
            }
            is("the others stay", x.element(sort, 0) + x.element(sort, 2), 0);
        }
    }

    private void booleans() {
        about = "a boolean: whether it is not 0; 1 or 0";
        ThoughtsDrip x = new ThoughtsDrip();
        x.row(0, 4, 2);
        for (long v : new long[] {1, 2, 256, 65536, 4294967296L, -1, Long.MIN_VALUE, Long.MAX_VALUE}) {
            is("put", x.put(0, 1, v), 1);
            is(v + " is not 0", x.element(0, 1), 1);
            is("put", x.put(0, 1, 0), 1);
            is("0", x.element(0, 1), 0);
        }
    }

    private void places() {
        about = "-13 a place that is not there";
        ThoughtsDrip x = new ThoughtsDrip();
        for (int n = 0; n < 4; n++) {
            x.row(0, 2, n);
            for (int i : new int[] {-1, n, n + 1, 59, 60, LEAST, GREATEST}) {
                is(n + " elements, put at " + i, x.put(0, i, 5), PLACE);
                is(n + " elements, element " + i, x.element(0, i), Long.MIN_VALUE);
            }
            for (int i = 0; i < n; i++) {
                is(n + " elements, put at " + i, x.put(0, i, 5), 1);
            }
        }
    }

    private void elementRefused() {
        about = "element(): Long.MIN_VALUE: BAD, -11 to -13";
        ThoughtsDrip x = new ThoughtsDrip();
        x.body(0);
        x.keep(1, 0);
        x.row(2, 0, 1);
        is("nothing", x.element(0, 0), Long.MIN_VALUE);
        is("a BODY", x.element(1, 0), Long.MIN_VALUE);
        is("a place that is not there", x.element(2, 1), Long.MIN_VALUE);
        is("SHELF 6", x.element(6, 0), Long.MIN_VALUE);
        is("SHELF -1", x.element(-1, 0), Long.MIN_VALUE);
        is("one that is", x.element(2, 0), 0);
        x.row(3, 3, 1);
        x.put(3, 0, Long.MIN_VALUE);
        is("the least long", x.element(3, 0), Long.MIN_VALUE);
    }

    private static long digits(ThoughtsDrip x, int shelf, int n) {
        long all = 0;
        for (int i = 0; i < n; i++) {
            all = all * 10 + x.element(shelf, i);
        }
        return all;
    }

    private void shiftAsBefore() {
        about = "shift(): as they all were before: n";
        for (int sort = 0; sort < 4; sort++) {
            ThoughtsDrip x = new ThoughtsDrip();
            row(x, 0, sort, 1, 2, 3, 4, 5, 6);
            row(x, 1, sort, 7, 8, 9);
            is("on by one", x.shift(0, 0, 0, 1, 5), 5);
            is("each once", digits(x, 0, 6), 112345);
            is("back by two", x.shift(0, 2, 0, 0, 4), 4);
            is("each once", digits(x, 0, 6), 234545);
            is("onto itself", x.shift(0, 1, 0, 1, 5), 5);
            is("the same", digits(x, 0, 6), 234545);
            is("to the other", x.shift(0, 3, 1, 0, 3), 3);
            is("there", digits(x, 1, 3), 545);
            is("here as before", digits(x, 0, 6), 234545);
            is("back from it", x.shift(1, 1, 0, 5, 1), 1);
            is("there", digits(x, 0, 6), 234544);
        }
        ThoughtsDrip x = new ThoughtsDrip();
        row(x, 0, 4, 1, 0, 1, 1);
        is("booleans", x.shift(0, 0, 0, 1, 3), 3);
        is("booleans", digits(x, 0, 4), 1101);
    }

    private void shiftPlaces() {
        about = "shift(): -13 (n below 0, too)";
        ThoughtsDrip x = new ThoughtsDrip();
        row(x, 0, 2, 1, 2, 3, 4);
        row(x, 1, 2, 5, 6);
        is("all of the shorter", x.shift(0, 0, 1, 0, 2), 2);
        is("one too many there", x.shift(0, 0, 1, 0, 3), PLACE);
        is("one too many here", x.shift(0, 3, 1, 0, 2), PLACE);
        is("the last one", x.shift(0, 3, 1, 1, 1), 1);
        is("behind the last here", x.shift(0, 4, 1, 0, 1), PLACE);
        is("behind the last there", x.shift(0, 0, 1, 2, 1), PLACE);
        is("ahead of the first here", x.shift(0, -1, 1, 0, 1), PLACE);
        is("ahead of the first there", x.shift(0, 0, 1, -1, 1), PLACE);
        is("none at all", x.shift(0, 0, 1, 0, 0), 0);
        is("none from the end to the end", x.shift(0, 4, 1, 2, 0), 0);
        is("n -1", x.shift(0, 1, 1, 1, -1), PLACE);
        is("n the least", x.shift(0, 0, 1, 0, LEAST), PLACE);
        is("n the greatest", x.shift(0, 0, 1, 0, GREATEST), PLACE);
        is("i and n the greatest", x.shift(0, GREATEST, 1, 0, GREATEST), PLACE);
        is("j and n the greatest", x.shift(0, 0, 1, GREATEST, GREATEST), PLACE);
        is("i the least", x.shift(0, LEAST, 1, 0, 1), PLACE);
        is("j the least", x.shift(0, 0, 1, LEAST, 1), PLACE);
        is("refused: all as before", digits(x, 0, 4) * 100 + digits(x, 1, 2), 123414);
        x.row(2, 2, 0);
        is("none of an empty one", x.shift(2, 0, 2, 0, 0), 0);
        is("one of an empty one", x.shift(2, 0, 0, 0, 1), PLACE);
    }

    private void shiftRefused() {
        about = "shift(): BAD, -11 (either), -12 (no ROWS, or of unlike sorts)";
        ThoughtsDrip x = new ThoughtsDrip();
        x.body(0);
        x.keep(5, 0);
        for (int sort = 0; sort < 4; sort++) {
            x.row(sort, sort, 2);
        }
        for (int a = 0; a < 4; a++) {
            for (int b = 0; b < 4; b++) {
                is("sorts " + a + ", " + b, x.shift(a, 0, b, 0, 1), a == b ? 1 : KIND);
            }
            is("to nothing", x.shift(a, 0, 4, 0, 1), NONE);
            is("from nothing", x.shift(4, 0, a, 0, 1), NONE);
            is("to a BODY", x.shift(a, 0, 5, 0, 1), KIND);
            is("from a BODY", x.shift(5, 0, a, 0, 1), KIND);
        }
        is("nothing to nothing", x.shift(4, 0, 4, 0, 0), NONE);
        is("a BODY to nothing: -11 is named first", x.shift(5, 0, 4, 0, 1), NONE);
        is("nothing to a BODY: -11 is named first", x.shift(4, 0, 5, 0, 1), NONE);
        is("a BODY to itself", x.shift(5, 0, 5, 0, 0), KIND);
        is("no such SHELF: BAD is named first", x.shift(4, 0, 6, 0, 1), BAD);
        is("no such SHELF: BAD is named first", x.shift(-1, 0, 4, 0, 1), BAD);
        is("unlike and no place: -12 is named first", x.shift(0, 9, 1, 0, 1), KIND);
        is("nothing and no place: -11 is named first", x.shift(0, 9, 4, 0, -1), NONE);
        x.row(4, 4, 2);
        is("booleans and bytes", x.shift(4, 0, 0, 0, 1), KIND);
        is("booleans and booleans", x.shift(4, 0, 4, 1, 1), 1);
    }

    private void takenFor() {
        about = "taken(): a BODY of KIND k (0 .. 7), or under it: its KIND";
        int[] above = {-1, 0, 0, 2, 1, 3, 0, 6};
        ThoughtsDrip x = new ThoughtsDrip();
        for (int kind = 0; kind < 8; kind++) {
            x.body(kind);
            x.keep(4, kind);
            for (int k = 0; k < 8; k++) {
                boolean under = false;
                for (int at = kind; at >= 0; at = above[at]) {
                    under |= at == k;
                }
                is(kind + " for " + k, x.taken(4, k), under ? kind : KIND);
            }
            is("k 8", x.taken(4, 8), BAD);
            is("k -1", x.taken(4, -1), BAD);
        }
        is("nothing: -11", x.taken(3, 0), NONE);
        is("nothing, k 8: BAD is named first", x.taken(3, 8), BAD);
        x.row(3, 0, 0);
        is("a ROW, of none: -12", x.taken(3, 0), KIND);
    }

    private void peopleFromARow() {
        about = "PEOPLE FROM A ROW of shorts, from place i on: by twos FLAT, OUT: n of them";
        for (int n = 1; n <= 6; n++) {
            ThoughtsDrip x = new ThoughtsDrip();
            shorts(x, 2, 99, 0, 0, 23, 4095, 1, 2, 3, 4, 5, 6, 7, 8);
            is(n + " from place 1", x.people(2, 1, n), n);
            is("so many", x.count(0), n);
            int[] all = {0, 0, 23, 4095, 1, 2, 3, 4, 5, 6, 7, 8};
            for (int p = 0; p < n; p++) {
                is("FLAT of " + p, x.of(p, 0), all[2 * p]);
                is("OUT of " + p, x.of(p, 1), all[2 * p + 1]);
                is("THINKS of " + p, x.of(10 * p, 2), 0);
                is("WET of " + p, x.of(10 * p, 3), 0);
            }
            is("no more", x.of(n, 0), BAD);
            is("no change", x.count(3), 0);
        }
        ThoughtsDrip x = new ThoughtsDrip();
        x.row(5, 1, 60);
        x.put(5, 58, 9);
        x.put(5, 59, 10);
        is("the last two of 60", x.people(5, 58, 6), 1);
        is("FLAT, OUT", x.of(0, 0) * 100 + x.of(0, 1), 910);
        is("the last one of 60", x.people(5, 59, 6), 0);
        is("behind 60", x.people(5, 60, 6), 0);
    }

    private void peopleEnds() {
        about = "it ends where the row is missing, ends (within a two, too): those ahead came";
        ThoughtsDrip x = new ThoughtsDrip();
        is("missing", x.people(0, 0, 6), 0);
        is("missing, i below 0", x.people(0, -1, 6), 0);
        x.row(0, 1, 0);
        is("of no elements", x.people(0, 0, 6), 0);
        x.row(0, 1, 1);
        is("within the first two", x.people(0, 0, 6), 0);
        x.row(0, 1, 2);
        is("behind one", x.people(0, 0, 6), 1);
        x.row(0, 1, 3);
        is("within the second two", x.people(0, 0, 6), 1);
        is("within a two, from place 2", x.people(0, 2, 6), 0);
        is("at its end", x.people(0, 3, 6), 0);
        is("behind its end", x.people(0, 4, 6), 0);
        is("far behind", x.people(0, GREATEST, 6), 0);
        is("next to farthest", x.people(0, GREATEST - 1, 6), 0);
        is("i -1", x.people(0, -1, 6), 0);
        is("i -2", x.people(0, -2, 1), 0);
        is("i the least", x.people(0, LEAST, 1), 0);
        is("two came", x.count(0), 2);
        is("from place 1, one", x.people(0, 1, 1), 1);
        is("three came", x.count(0), 3);
    }

    private void peopleNotAsTheyMayBe() {
        about = "it ends where one is not as it may be";
        int[][] wrong = {{24, 0}, {-1, 0}, {32767, 0}, {-32768, 0}, {0, 4096}, {0, -1}, {0, 32767}, {0, -32768}, {24, 4096}};
        for (int[] w : wrong) {
            ThoughtsDrip x = new ThoughtsDrip();
            shorts(x, 0, w[0], w[1], 5, 5);
            is("the first", x.people(0, 0, 2), 0);
            is("nobody came", x.count(0), 0);
            shorts(x, 0, 5, 5, w[0], w[1], 6, 6);
            is("the second", x.people(0, 0, 3), 1);
            is("one came", x.count(0), 1);
            shorts(x, 0, 5, 5, 6, 6, w[0], w[1]);
            is("the third, not wanted", x.people(0, 0, 2), 2);
            is("two more came", x.count(0), 3);
        }
    }

    private void peopleFull() {
        about = "it ends where PEOPLE are FULL: those ahead came";
        for (int before = 0; before <= 6; before++) {
            ThoughtsDrip x = new ThoughtsDrip();
            for (int p = 0; p < before; p++) {
                x.person(20, 20);
            }
            x.row(0, 1, 12);
            is(before + " are there", x.people(0, 0, 6), 6 - before);
            is("six", x.count(0), 6);
            is("no more", x.people(0, 0, 1), 0);
            is("six", x.count(0), 6);
        }
    }

    private void peopleRefused() {
        about = "people(): BAD, -12 (no ROW of shorts; a SHELF that holds nothing is missing)";
        ThoughtsDrip x = new ThoughtsDrip();
        x.body(0);
        x.keep(0, 0);
        is("a BODY", x.people(0, 0, 1), KIND);
        is("a BODY, i below 0", x.people(0, -1, 1), KIND);
        is("a BODY, n 7: BAD is named first", x.people(0, 0, 7), BAD);
        is("a BODY, n 0: BAD is named first", x.people(0, 0, 0), BAD);
        for (int sort = 0; sort < 5; sort++) {
            x.row(1, sort, 2);
            is("sort " + sort, x.people(1, 0, 1), sort == 1 ? 1 : KIND);
            x.row(1, sort, 0);
            is("sort " + sort + " of none", x.people(1, 0, 1), sort == 1 ? 0 : KIND);
        }
        is("SHELF 6", x.people(6, 0, 1), BAD);
        is("SHELF -1", x.people(-1, 0, 1), BAD);
        is("n -1", x.people(2, 0, -1), BAD);
        is("n 7, nothing there", x.people(2, 0, 7), BAD);
        is("n 6, nothing there", x.people(2, 0, 6), 0);
        for (int p = 1; p < 6; p++) {
            x.person(0, 0);
        }
        is("FULL, a BODY", x.people(0, 0, 1), KIND);
        is("FULL, n 7", x.people(1, 0, 7), BAD);
        is("FULL", x.people(1, 0, 1), KIND);
    }

    private void counts() {
        about = "count(): how many";
        ThoughtsDrip x = new ThoughtsDrip();
        for (int what = 0; what < 6; what++) {
            is("what " + what + " at first", x.count(what), 0);
        }
        is("what 6", x.count(6), BAD);
        is("what -1", x.count(-1), BAD);
        is("far", x.count(GREATEST) + x.count(LEAST), 2 * BAD);
        x.feed('a');
        x.feed(300);
        is("bytes", x.count(2), 1);
        x.law();
        is("bytes behind law()", x.count(2), 0);
        x.awning(0);
        x.awning(0);
        x.awning(23);
        is("AWNINGS above 0", x.count(1), 2);
        x.mend(0, 4, 0);
        is("but one", x.count(1), 1);
        is("changes", x.count(3), 1);
        x.undo();
        is("no changes that may be UNDONE", x.count(3), 0);
        is("AWNINGS above 0", x.count(1), 2);
        x.redo();
        is("changes", x.count(3), 1);
    }
}

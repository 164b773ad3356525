/** What the document's fourth block says of deeds, changes and an image: each sentence's edges, worked out by hand. */
public final class DeedEdgeTests extends Asking {
    public static void main(String[] args) {
        DeedEdgeTests t = new DeedEdgeTests();
        t.hours();
        t.moves();
        t.awnings();
        t.wiped();
        t.ledAtFirst();
        t.ledByDeedsAlone();
        t.undoNone();
        t.undoEach();
        t.sameNumberIsNone();
        t.refusedIsNone();
        t.anotherCameBehind();
        t.fortyAtMost();
        t.deedsAreNone();
        t.undoneToWhatItWas();
        t.imageNone();
        t.imageKeeps();
        t.imageKeepsLed();
        t.imageKeepsNot();
        t.imageOfNobody();
        t.imageAgain();
        t.imageAndChanges();
        t.due.end("DeedEdgeTests");
    }

    /** 0 on top of stack 0 thinks 9 of MARK 0, 1 sits at FLOOR 3; both are always out. */
    private static ThoughtsDrip two() {
        ThoughtsDrip x = new ThoughtsDrip();
        x.person(7, ALWAYS);
        x.person(3, ALWAYS);
        x.mend(0, 2, 9);
        return x;
    }

    private void hours() {
        about = "an HOUR passes";
        ThoughtsDrip x = new ThoughtsDrip();
        is("nobody", x.hour(), 1);
        is("nothing came", x.led(3), 0);
        for (int p = 0; p < 6; p++) {
            x.person(23 - p, ALWAYS);
            for (int mark = 0; mark < 4; mark++) {
                x.mend(10 * p + mark, 2, 9);
            }
        }
        x.hour();
        for (int p = 0; p < 6; p++) {
            for (int mark = 0; mark < 4; mark++) {
                is("one of six", x.of(10 * p + mark, 3), 9 * p);
            }
        }
        is("54 of each", x.led(3), 216);
        is("two hours", x.led(0), 2);
        for (int k = 0; k < 12; k++) {
            x.hour();
        }
        is("12 hours on", x.of(53, 3), 45 * 13);
        is("12 hours on", x.led(3), 216 * 13);
    }

    private void moves() {
        about = "one MOVES to a FLAT: FLAT till then";
        ThoughtsDrip x = two();
        is("to the other one", x.moves(0, 3), 7);
        is("to 0", x.moves(0, 0), 3);
        is("to 23", x.moves(0, 23), 0);
        is("to where he is", x.moves(0, 23), 23);
        is("FLAT", x.of(0, 0), 23);
        is("the other one stays", x.of(1, 0), 3);
        is("-1", x.moves(0, -1), BAD);
        is("24", x.moves(0, 24), BAD);
        is("one 2", x.moves(2, 0), BAD);
        is("FLAT stays", x.of(0, 0), 23);
        is("four moves", x.led(1), 4);
        is("nobody", new ThoughtsDrip().moves(0, 0), BAD);
    }

    private void awnings() {
        about = "an AWNING is put out (one more, 9 at most)";
        ThoughtsDrip x = two();
        for (int k = 1; k <= 12; k++) {
            is("AWNING then", x.awning(0), Math.min(9, k));
            is("as of() has it", x.of(0, 4), Math.min(9, k));
        }
        x.mend(23, 4, 8);
        is("one more than 8", x.awning(23), 9);
        is("none more than 9", x.awning(23), 9);
        is("two FLATS", x.count(1), 2);
        is("-1", x.awning(-1), BAD);
        is("24", x.awning(24), BAD);
        is("put out 14 times", x.led(2), 14);
    }

    private void wiped() {
        about = "one is wiped dry (WET 0): WET of all MARKS till then";
        ThoughtsDrip x = two();
        for (int mark = 0; mark < 4; mark++) {
            x.mend(10 + mark, 3, 9999);
            x.mend(mark, 3, mark + 1);
        }
        is("all of 9999", x.wipe(1), 39996);
        for (int mark = 0; mark < 4; mark++) {
            is("WET 0", x.of(10 + mark, 3), 0);
            is("the other one stays", x.of(mark, 3), mark + 1);
        }
        is("dry already", x.wipe(1), 0);
        is("wiped off", x.led(4), 39996);
        x.hour();
        is("9 more", x.wipe(1), 9);
        is("1 .. 4", x.wipe(0), 10);
        is("wiped off", x.led(4), 40015);
        is("one 2", x.wipe(2), BAD);
        is("nobody", new ThoughtsDrip().wipe(0), BAD);
    }

    private void ledAtFirst() {
        about = "LED";
        ThoughtsDrip x = new ThoughtsDrip();
        for (int what = 0; what < 5; what++) {
            is("at first", x.led(what), 0);
        }
        is("what 5", x.led(5), BAD);
        is("what -1", x.led(-1), BAD);
    }

    private void ledByDeedsAlone() {
        about = "LED: deeds alone";
        ThoughtsDrip x = two();
        x.mend(0, 0, 5);
        x.mend(5, 4, 3);
        x.mend(10, 3, 77);
        x.mend(10, 3, 0);
        x.mend(0, 6, 4);
        x.undo();
        x.redo();
        x.wet(48, 10);
        x.caught(48, 0);
        x.change(10, 1, -1);
        x.drawn(1, 101, 1);
        for (int what = 0; what < 5; what++) {
            is("by mend(), undo(), in thought: none", x.led(what), 0);
        }
        is("refused", x.moves(2, 0) + x.awning(24) + x.wipe(2), 3 * BAD);
        for (int what = 0; what < 5; what++) {
            is("refused: none", x.led(what), 0);
        }
    }

    private void undoNone() {
        about = "undo(), redo(): STATE: none";
        ThoughtsDrip x = new ThoughtsDrip();
        is("undo", x.undo(), STATE);
        is("redo", x.redo(), STATE);
        x.person(1, 1);
        x.hour();
        x.awning(2);
        x.moves(0, 2);
        is("undo behind deeds", x.undo(), STATE);
        x.mend(0, 5, 1);
        is("redo, none undone", x.redo(), STATE);
        is("undo", x.undo(), 0);
        is("undo, none left", x.undo(), STATE);
        is("it changes nothing", x.redo(), 0);
        is("redo, none left", x.redo(), STATE);
        is("IRON", x.of(0, 5), 1);
        is("undo", x.undo(), 0);
        is("IRON", x.of(0, 5), 0);
    }

    private void undoEach() {
        about = "CHANGES (all numbers of mend()) can be UNDONE, the latest first, and DONE AGAIN";
        ThoughtsDrip x = new ThoughtsDrip();
        for (int p = 0; p < 6; p++) {
            x.person(p, p + 1);
        }
        int[] number = {5, 4, 33, 20, 23, 0, 0};
        int[] was = {5, 5, 0, 0, 0, 0, 0};
        int[] first = {23, 4095, 9, 9999, 9, 9, 11};
        int[] second = {0, 0, 1, 1, 1, 1, 1};
        for (int what = 0; what < 7; what++) {
            x.mend(number[what], what, first[what]);
            x.mend(number[what], what, second[what]);
        }
        is("how many", x.count(3), 14);
        for (int what = 6; what >= 0; what--) {
            is("undo", x.undo(), 2 * what + 1);
            is("of what " + what, x.of(number[what], what), first[what]);
            is("undo", x.undo(), 2 * what);
            is("of what " + what, x.of(number[what], what), was[what]);
            is("how many", x.count(3), 2 * what);
        }
        for (int what = 0; what < 7; what++) {
            is("redo", x.redo(), 13 - 2 * what);
            is("of what " + what, x.of(number[what], what), first[what]);
            is("redo", x.redo(), 12 - 2 * what);
            is("of what " + what, x.of(number[what], what), second[what]);
            is("how many", x.count(3), 2 * what + 2);
        }
    }

    private void sameNumberIsNone() {
        about = "telling the same number is none";
        ThoughtsDrip x = two();
        x.mend(5, 4, 3);
        x.undo();
        int[] number = {1, 1, 0, 10, 5, 0, 0};
        for (int what = 0; what < 7; what++) {
            int now = x.of(number[what], what);
            is("what " + what, x.mend(number[what], what, now), now);
            is("none", x.count(3), 1);
        }
        is("so what was undone can be done again", x.redo(), 0);
        is("AWNING", x.of(5, 4), 3);
    }

    private void refusedIsNone() {
        about = "what is refused is no change";
        ThoughtsDrip x = two();
        x.mend(5, 4, 3);
        x.undo();
        is("BAD", x.mend(5, 4, 10), BAD);
        is("BAD", x.mend(24, 4, 1), BAD);
        is("BAD", x.mend(0, 7, 1), BAD);
        is("BAD", x.mend(2, 0, 1), BAD);
        is("none", x.count(3), 1);
        is("it can be done again", x.redo(), 0);
        is("AWNING", x.of(5, 4), 3);
    }

    private void anotherCameBehind() {
        about = "DONE AGAIN (as long as no other came behind)";
        ThoughtsDrip x = new ThoughtsDrip();
        x.mend(0, 4, 1);
        x.mend(1, 4, 2);
        x.mend(2, 4, 3);
        x.undo();
        x.undo();
        is("two are undone", x.count(3), 1);
        is("another", x.mend(3, 4, 4), 0);
        is("two to undo", x.count(3), 2);
        is("none again", x.redo(), STATE);
        is("1, 2 stay undone", x.of(1, 4) + x.of(2, 4), 0);
        is("undo", x.undo(), 1);
        is("again", x.redo(), 0);
        is("3", x.of(3, 4), 4);
        is("undo", x.undo(), 1);
        is("the same as it was undone from", x.mend(3, 4, 4), 0);
        is("is another one", x.redo(), STATE);
        is("people who come are none", x.person(0, 0), 0);
        is("undo", x.undo(), 1);
        is("undo", x.undo(), 0);
        x.person(1, 1);
        x.hour();
        tell(x, "a");
        is("nor are deeds, laws", x.redo(), 1);
    }

    private void fortyAtMost() {
        about = "40 at most are kept";
        ThoughtsDrip x = new ThoughtsDrip();
        for (int k = 0; k < 40; k++) {
            x.mend(k % 20, 4, k / 20 + 1);
            is("as many", x.count(3), k + 1);
        }
        is("a 41st", x.mend(20, 4, 5), 0);
        is("40", x.count(3), 40);
        is("a 42nd", x.mend(21, 4, 6), 0);
        is("40", x.count(3), 40);
        is("undo", x.undo(), 39);
        is("undo", x.undo(), 38);
        is("the latest ones", x.of(20, 4) + x.of(21, 4), 0);
        is("redo", x.redo(), 1);
        is("redo", x.redo(), 0);
        is("40", x.count(3), 40);
        for (int k = 39; k >= 0; k--) {
            is("undo", x.undo(), k);
        }
        is("no 41st", x.undo(), STATE);
        is("the two oldest stand", x.of(0, 4) + x.of(1, 4), 2);
        is("the third does not", x.of(2, 4), 0);
        for (int k = 39; k >= 0; k--) {
            is("redo", x.redo(), k);
        }
        is("no 41st", x.redo(), STATE);
        is("all are done again", x.of(0, 4) * 1000 + x.of(19, 4) * 100 + x.of(20, 4) * 10 + x.of(21, 4), 2256);
        x.undo();
        is("behind an undone one 40 again", x.mend(22, 4, 7), 0);
        is("40", x.count(3), 40);
        is("undo", x.undo(), 39);
        is("22", x.of(22, 4), 0);
        is("undo", x.undo(), 38);
        is("20", x.of(20, 4), 0);
    }

    private void deedsAreNone() {
        about = "deeds are none (FLAT, AWNING, WET, HOUR by them, too)";
        ThoughtsDrip x = two();
        x.mend(4, 4, 2);
        x.undo();
        int changes = x.count(3);
        x.hour();
        x.moves(1, 2);
        x.awning(9);
        x.wipe(1);
        x.image();
        x.back();
        is("as many", x.count(3), changes);
        is("redo", x.redo(), 0);
        is("4", x.of(4, 4), 2);
        x.undo();
        x.undo();
        is("undo, none left", x.undo(), STATE);
        is("HOUR", x.of(0, 6), 1);
        is("FLAT", x.of(1, 0), 2);
        is("AWNING", x.of(9, 4), 1);
    }

    private void undoneToWhatItWas() {
        about = "UNDONE: what it was before the change, whatever deeds did since";
        ThoughtsDrip x = two();
        x.mend(1, 0, 5);
        x.mend(5, 4, 2);
        x.mend(10, 3, 100);
        x.mend(0, 6, 8);
        x.moves(1, 4);
        x.awning(5);
        x.wipe(1);
        x.hour();
        is("HOUR", x.of(0, 6), 9);
        x.undo();
        is("HOUR", x.of(0, 6), 0);
        is("WET: 9 past AWNING 3 of FLAT 5", x.of(10, 3), 6);
        x.undo();
        is("WET", x.of(10, 3), 0);
        is("AWNING", x.of(5, 4), 3);
        x.undo();
        is("AWNING", x.of(5, 4), 0);
        is("FLAT", x.of(1, 0), 4);
        x.undo();
        is("FLAT", x.of(1, 0), 3);
        x.moves(1, 20);
        x.redo();
        x.redo();
        x.redo();
        is("FLAT again", x.of(1, 0), 5);
        is("AWNING again", x.of(5, 4), 2);
        is("WET again", x.of(10, 3), 100);
        is("moves are led", x.led(1), 2);
    }

    private void imageNone() {
        about = "back(): STATE: there is none";
        ThoughtsDrip x = two();
        is("none", x.back(), STATE);
        x.hour();
        is("none", x.back(), STATE);
        is("HOUR stays", x.of(0, 6), 1);
        is("kept", x.image(), 1);
        is("laid back", x.back(), 1);
    }

    private void imageKeeps() {
        about = "AN IMAGE keeps FLATS, WET of PEOPLE, HOUR, AWNINGS, what LED tells";
        ThoughtsDrip x = new ThoughtsDrip();
        for (int p = 0; p < 6; p++) {
            x.person(4 * p, ALWAYS);
            for (int mark = 0; mark < 4; mark++) {
                x.mend(10 * p + mark, 3, 100 * p + 10 * mark + 1);
            }
        }
        for (int flat = 0; flat < 24; flat++) {
            x.mend(flat, 4, flat % 10);
        }
        for (int k = 0; k < 14; k++) {
            x.hour();
        }
        x.awning(1);
        x.moves(0, 0);
        is("14 hours", x.image(), 14);
        for (int p = 0; p < 6; p++) {
            x.moves(p, 23 - p);
            x.wipe(p);
        }
        for (int flat = 0; flat < 24; flat++) {
            x.awning(flat);
        }
        x.hour();
        is("14 hours", x.back(), 14);
        for (int p = 0; p < 6; p++) {
            is("FLAT of " + p, x.of(p, 0), 4 * p);
            for (int mark = 0; mark < 4; mark++) {
                is("WET of " + p, x.of(10 * p + mark, 3), 100 * p + 10 * mark + 1);
            }
        }
        for (int flat = 0; flat < 24; flat++) {
            is("AWNING of " + flat, x.of(flat, 4), flat == 1 ? 2 : flat % 10);
        }
        is("HOUR", x.of(0, 6), 2);
        int[] led = {14, 1, 1, 0, 0};
        for (int what = 0; what < 5; what++) {
            is("LED " + what, x.led(what), led[what]);
        }
    }

    private void imageKeepsLed() {
        about = "AN IMAGE keeps what LED tells, each number of it";
        ThoughtsDrip x = two();
        x.mend(13, 3, 77);
        for (int k = 0; k < 3; k++) {
            x.hour();
        }
        x.wipe(0);
        x.moves(1, 1);
        x.moves(1, 0);
        for (int k = 0; k < 4; k++) {
            x.awning(20);
        }
        // 1 is WET by what 0 thinks, and by the 77 that were told.
        is("27 and 77", x.wipe(1), 104);
        int[] then = {3, 2, 4, 27, 104};
        x.image();
        x.hour();
        x.moves(0, 0);
        x.awning(20);
        x.mend(0, 3, 5);
        x.wipe(0);
        int[] now = {4, 3, 5, 36, 109};
        for (int what = 0; what < 5; what++) {
            is("LED " + what + " ahead of it", x.led(what), now[what]);
        }
        is("3 hours", x.back(), 3);
        for (int what = 0; what < 5; what++) {
            is("LED " + what, x.led(what), then[what]);
        }
        x.hour();
        is("and on from there", x.led(0), 4);
    }

    private void imageKeepsNot() {
        about = "AN IMAGE keeps nothing else";
        ThoughtsDrip x = two();
        x.image();
        x.mend(0, 1, 6);
        x.mend(0, 2, 3);
        x.mend(0, 5, 4);
        feedAll(x, "a");
        x.body(3);
        x.row(0, 2, 3);
        x.put(0, 1, 9);
        x.back();
        is("OUT", x.of(0, 1), 6);
        is("THINKS", x.of(0, 2), 3);
        is("IRON", x.of(0, 5), 4);
        is("bytes", x.count(2), 1);
        is("BODIES", x.count(4), 1);
        is("ROWS", x.element(0, 1), 9);
        is("law", x.law(), 1);
        x.back();
        is("THE LAW: IRON lets all run on", x.comes(107, 0, 1), 3);
        is("THE LAW: no less on the way", x.comes(103, 0, 0), 3);
    }

    private void imageOfNobody() {
        about = "PEOPLE that came since as they are";
        ThoughtsDrip x = new ThoughtsDrip();
        is("of nobody", x.image(), 0);
        for (int p = 0; p < 6; p++) {
            x.person(20, ALWAYS);
            x.mend(10 * p + 3, 3, 50 + p);
            x.moves(p, 10 + p);
        }
        x.mend(0, 6, 5);
        is("laid back", x.back(), 0);
        is("HOUR", x.of(0, 6), 0);
        is("moves", x.led(1), 0);
        is("six of them", x.count(0), 6);
        for (int p = 0; p < 6; p++) {
            is("FLAT", x.of(p, 0), 10 + p);
            is("WET", x.of(10 * p + 3, 3), 50 + p);
        }
        ThoughtsDrip y = two();
        y.image();
        y.person(9, 9);
        y.mend(20, 3, 8);
        y.moves(1, 1);
        y.moves(2, 2);
        y.back();
        is("of two: 1 is back", y.of(1, 0), 3);
        is("2 is not", y.of(2, 0) * 10 + y.of(20, 3), 28);
        is("OUT of 2", y.of(2, 1), 9);
    }

    private void imageAgain() {
        about = "It is laid back";
        ThoughtsDrip x = two();
        x.hour();
        is("an image", x.image(), 1);
        x.hour();
        is("back", x.back(), 1);
        x.hour();
        x.hour();
        is("back again", x.back(), 1);
        is("HOUR", x.of(0, 6), 1);
        is("WET", x.of(10, 3), 9);
        x.hour();
        is("another image in its place", x.image(), 2);
        x.mend(0, 6, 11);
        x.hour();
        is("HOUR", x.of(0, 6), 0);
        is("back to that", x.back(), 2);
        is("HOUR", x.of(0, 6), 2);
        is("WET", x.of(10, 3), 18);
        is("hours of LED, not HOUR", x.mend(0, 6, 7), 2);
        is("hours of LED, not HOUR", x.image(), 2);
        is("hours of LED, not HOUR", x.back(), 2);
        is("HOUR", x.of(0, 6), 7);
    }

    private void imageAndChanges() {
        about = "AN IMAGE and CHANGES";
        ThoughtsDrip x = two();
        x.image();
        x.mend(1, 0, 6);
        x.mend(10, 3, 44);
        x.mend(6, 4, 5);
        is("back", x.back(), 0);
        is("FLAT", x.of(1, 0), 3);
        is("WET", x.of(10, 3), 0);
        is("AWNING", x.of(6, 4), 0);
        is("changes stay", x.count(3), 4);
        is("undo", x.undo(), 3);
        is("AWNING as it was", x.of(6, 4), 0);
        is("redo", x.redo(), 0);
        is("AWNING", x.of(6, 4), 5);
    }
}

/** What the document's first block says of FLATS, PEOPLE and AN HOUR: each sentence's edges, worked out by hand. */
public final class HouseEdgeTests extends Asking {
    public static void main(String[] args) {
        HouseEdgeTests t = new HouseEdgeTests();
        t.constants();
        t.calls512();
        t.stacksAndFloors();
        t.awningsAtFirst();
        t.sixPeople();
        t.moreInOneFlat();
        t.thinks();
        t.outByHours();
        t.wetBounds();
        t.ironAndHour();
        t.noneToTheTop();
        t.wetByAwningLess();
        t.eachByAllOfIt();
        t.wettest();
        t.wettestOfEachMark();
        t.onlyThoseOut();
        t.toThePorter();
        t.hourBehind11();
        t.mendAnswersWhatItWas();
        t.due.end("HouseEdgeTests");
    }

    /** 0 on top of stack 0 thinks v of MARK 0, 1 sits at FLOOR 3; both are always out. */
    private static ThoughtsDrip above(int v) {
        ThoughtsDrip x = new ThoughtsDrip();
        x.person(7, ALWAYS);
        x.person(3, ALWAYS);
        x.mend(0, 2, v);
        return x;
    }

    private void constants() {
        about = "the public face";
        is("BAD", ThoughtsDrip.BAD, -1);
        is("NOT", ThoughtsDrip.NOT, -2);
        is("FULL", ThoughtsDrip.FULL, -3);
        is("STATE", ThoughtsDrip.STATE, -5);
        is("VOID", ThoughtsDrip.VOID, -2000000000);
    }

    private void calls512() {
        about = "at most 512 calls";
        ThoughtsDrip x = above(9);
        for (int k = 4; k < 511; k++) {
            x.hour();
        }
        is("the 511th: 507 hours", x.led(0), 507);
        is("the 512th: 9 each", x.of(10, 3), 4563);
    }

    private void stacksAndFloors() {
        about = "8 times the STACK (0 .. 2), and the FLOOR (0 .. 7; 7 the top)";
        for (int home = 0; home < 24; home++) {
            ThoughtsDrip x = new ThoughtsDrip();
            x.person(home, ALWAYS);
            x.mend(3, 2, 7);
            for (int flat = 0; flat < 24; flat++) {
                boolean beneath = flat / 8 == home / 8 && flat < home;
                is("from " + home + " to " + flat, x.comes(flat, 3, 0), beneath ? 7 : 0);
                is("from " + home + ", on from " + flat, x.comes(flat, 3, 1), beneath || flat == home ? 7 : 0);
            }
            is("from " + home + " to THE PORTER", x.porter(0, 3), 7);
            is("of another MARK", x.porter(0, 2), 0);
        }
    }

    private void awningsAtFirst() {
        about = "AWNING of each (0 .. 9; 0 at first)";
        ThoughtsDrip x = new ThoughtsDrip();
        for (int flat = 0; flat < 24; flat++) {
            is("FLAT " + flat, x.of(flat, 4), 0);
            is("9 at FLAT " + flat, x.mend(flat, 4, 9), 0);
            is("10 at FLAT " + flat, x.mend(flat, 4, 10), BAD);
            is("-1 at FLAT " + flat, x.mend(flat, 4, -1), BAD);
            is("stays 9", x.of(flat, 4), 9);
            is("above 0", x.count(1), flat + 1);
        }
        is("24 of them", x.count(1), 24);
        for (int flat = 0; flat < 24; flat++) {
            is("back to 0", x.mend(flat, 4, 0), 9);
        }
        is("none above 0", x.count(1), 0);
    }

    private void sixPeople() {
        about = "PEOPLE 0 .. 5, as they come";
        ThoughtsDrip x = new ThoughtsDrip();
        is("nobody", x.of(0, 0), BAD);
        for (int p = 0; p < 6; p++) {
            is("before he comes", x.first(p), BAD);
            is("one comes", x.person(3 * p, 100 + p), p);
            is("how many", x.count(0), p + 1);
            is("he is there", x.first(p), NOT);
        }
        is("a seventh", x.person(0, 0), FULL);
        is("a seventh", x.person(23, 4095), FULL);
        is("BAD is named first", x.person(24, 0), BAD);
        is("BAD is named first", x.person(0, -1), BAD);
        is("six", x.count(0), 6);
        is("no seventh", x.of(6, 0), BAD);
        for (int p = 0; p < 6; p++) {
            is("FLAT", x.of(p, 0), 3 * p);
            is("OUT", x.of(p, 1), 100 + p);
        }
    }

    private void moreInOneFlat() {
        about = "more may be in one";
        ThoughtsDrip x = new ThoughtsDrip();
        for (int p = 0; p < 6; p++) {
            is("all in FLAT 9", x.person(9, ALWAYS), p);
            x.mend(10 * p + 1, 2, 9);
        }
        is("54 run on", x.comes(9, 1, 1), 54);
        is("54 come", x.comes(8, 1, 0), 54);
        is("54 come to THE PORTER", x.porter(11, 1), 54);
        is("none comes to them", x.comes(9, 1, 0), 0);
        for (int p = 0; p < 6; p++) {
            is("none drips on one beside him", x.wet(48, 10 * p + 1), 0);
            is("nor is likely to", x.odds(10 * p + 1, 0, 0), 0);
        }
    }

    private void thinks() {
        about = "THINKS of MARKS 0 .. 3 (0 .. 9 each an hour; 0 at first)";
        ThoughtsDrip x = above(0);
        for (int mark = 0; mark < 4; mark++) {
            is("0 at first", x.of(10 + mark, 2), 0);
            is("becomes 9", x.mend(10 + mark, 2, 9), 0);
            is("not 10", x.mend(10 + mark, 2, 10), BAD);
            is("not -1", x.mend(10 + mark, 2, -1), BAD);
            is("9", x.of(10 + mark, 2), 9);
            is("9 come", x.porter(5, mark), 9);
            is("of the other one none", x.of(mark, 2), 0);
        }
        is("MARK 4", x.mend(14, 2, 1), BAD);
        is("MARK 9", x.mend(19, 2, 1), BAD);
        is("MARK 4", x.of(14, 2), BAD);
        is("all four marks, an hour", x.hour(), 1);
        is("36", x.led(3), 36);
    }

    private void outByHours() {
        about = "OUT (bits 0 .. 4095: at which of HOURS 0 .. 11)";
        for (int hour = 0; hour < 12; hour++) {
            ThoughtsDrip x = new ThoughtsDrip();
            x.person(7, 1 << hour);
            x.mend(0, 2, 9);
            x.person(15, ALWAYS & ~(1 << hour));
            x.mend(10, 2, 4);
            for (int at = 0; at < 12; at++) {
                is("bit " + hour + " at " + at, x.comes(100 * at, 0, 0), at == hour ? 9 : 0);
                is("all but bit " + hour + " at " + at, x.comes(100 * at + 8, 0, 0), at == hour ? 0 : 4);
                is("both at " + at, x.porter(at, 0), at == hour ? 9 : 4);
            }
            x.mend(0, 1, 0);
            is("OUT 0", x.comes(100 * hour, 0, 0), 0);
            x.mend(0, 1, 4095);
            is("OUT 4095", x.comes(100 * hour, 0, 0), 9);
        }
    }

    private void wetBounds() {
        about = "WET of MARKS (0 .. 9999; 0 at first)";
        ThoughtsDrip x = above(9);
        for (int mark = 0; mark < 4; mark++) {
            is("0 at first", x.of(10 + mark, 3), 0);
            is("becomes 9999", x.mend(10 + mark, 3, 9999), 0);
            is("not 10000", x.mend(10 + mark, 3, 10000), BAD);
            is("not -1", x.mend(10 + mark, 3, -1), BAD);
            is("9999", x.of(10 + mark, 3), 9999);
            is("of the other one none", x.of(mark, 3), 0);
        }
        is("MARK 4", x.mend(14, 3, 1), BAD);
        is("MARK 4", x.of(14, 3), BAD);
    }

    private void ironAndHour() {
        about = "IRON (0 .. 9; 0 at first), HOUR (0 .. 11; 0 at first)";
        ThoughtsDrip x = above(9);
        is("IRON", x.of(0, 5), 0);
        is("HOUR", x.of(0, 6), 0);
        is("IRON 10", x.mend(0, 5, 10), BAD);
        is("IRON 9", x.mend(0, 5, 9), 0);
        is("HOUR 12", x.mend(0, 6, 12), BAD);
        is("HOUR 11", x.mend(0, 6, 11), 0);
        is("IRON", x.of(0, 5), 9);
        is("HOUR", x.of(0, 6), 11);
        is("number 1", x.of(1, 5) + x.of(1, 6), 2 * BAD);
        is("9 less 3 at each FLOOR", x.comes(6, 0, 0), 6);
        is("two FLOORS on", x.comes(5, 0, 0), 3);
        is("three FLOORS on", x.comes(4, 0, 0), 0);
    }

    private void noneToTheTop() {
        about = "there COMES .. none to the top";
        ThoughtsDrip x = new ThoughtsDrip();
        for (int p = 0; p < 6; p++) {
            x.person(p < 3 ? 8 * p + 7 : 8 * p - 24, ALWAYS);
            x.mend(10 * p, 2, 9);
        }
        for (int stack = 0; stack < 3; stack++) {
            for (int hour = 0; hour < 12; hour++) {
                is("to the top of " + stack, x.comes(100 * hour + 8 * stack + 7, 0, 0), 0);
            }
            is("who is on top keeps dry", x.wet(48, 10 * stack), 0);
            is("who is below does not", x.wet(48, 30 + 10 * stack), 432);
        }
        x.hour();
        is("in deed", x.of(0, 3) + x.of(10, 3) + x.of(20, 3), 0);
        is("in deed below", x.of(30, 3) + x.of(40, 3) + x.of(50, 3), 27);
    }

    private void wetByAwningLess() {
        about = "who is OUT there is WET by AWNING less than that (0 at least)";
        for (int v = 0; v <= 9; v++) {
            for (int w = 0; w <= 9; w++) {
                ThoughtsDrip x = above(v);
                x.mend(3, 4, w);
                int want = v > w ? v - w : 0;
                is(v + " past " + w, x.wet(1, 10), want);
                is(v + " past " + w + ", of all", x.most(1, 1, 0), want);
                x.hour();
                is(v + " past " + w + " in deed", x.of(10, 3), want);
                is("all of it comes all the same", x.comes(3, 0, 0), v);
                is("no AWNING keeps behind more than there is", x.comes(3, 0, 1), want);
            }
        }
    }

    private void eachByAllOfIt() {
        about = "each of them by all of it";
        ThoughtsDrip x = above(9);
        for (int p = 2; p < 6; p++) {
            x.person(3, ALWAYS);
        }
        x.mend(3, 4, 2);
        for (int p = 1; p < 6; p++) {
            is("one of five", x.wet(1, 10 * p), 7);
        }
        x.hour();
        for (int p = 1; p < 6; p++) {
            is("one of five in deed", x.of(10 * p, 3), 7);
        }
        is("and it runs on as if none were there", x.porter(0, 0), 7);
    }

    private void wettest() {
        about = "9999 in all at most";
        int[] before = {9989, 9990, 9991, 9998, 9999};
        int[] behind = {9998, 9999, 9999, 9999, 9999};
        for (int k = 0; k < before.length; k++) {
            ThoughtsDrip x = above(9);
            x.mend(10, 3, before[k]);
            is("9 more than " + before[k], x.wet(1, 10), behind[k]);
            is("48 hours more than " + before[k], x.wet(48, 10), 9999);
            is("of all", x.most(48, 1, 0), 9999);
            x.hour();
            is("in deed from " + before[k], x.of(10, 3), behind[k]);
            x.hour();
            x.hour();
            is("and on", x.of(10, 3), 9999);
            is("THE PORTER gets all of it", x.led(3), 27);
        }
    }

    private void wettestOfEachMark() {
        about = "9999 at most, of each MARK";
        ThoughtsDrip x = above(9);
        for (int mark = 0; mark < 4; mark++) {
            x.mend(mark, 2, 9);
            x.mend(10 + mark, 3, 9996 + mark);
        }
        is("of all four", x.most(1, 1, 0), 39996);
        x.mend(12, 3, 100);
        is("MARK 2 goes on", x.most(2, 1, 0), 3 * 9999 + 118);
        x.hour();
        is("MARK 0", x.of(10, 3), 9999);
        is("MARK 2", x.of(12, 3), 109);
        is("MARK 3", x.of(13, 3), 9999);
    }

    private void onlyThoseOut() {
        about = "what those OUT there THINK";
        ThoughtsDrip x = above(9);
        x.mend(10, 2, 4);
        x.mend(1, 1, 0);
        is("he does not think out there", x.comes(3, 0, 1), 9);
        is("he keeps dry", x.wet(48, 10), 0);
        tell(x, "a-n");
        is("he does not count", x.comes(3, 0, 1), 8);
        x.mend(1, 1, 1);
        is("at HOUR 0 he does: 8 and 4, less 1", x.comes(3, 0, 1), 11);
        is("at HOUR 1 he does not", x.comes(103, 0, 1), 8);
        is("HOUR 0 alone", x.wet(48, 10), 32);
        x.mend(0, 1, 0);
        is("nobody above", x.comes(3, 0, 1), 3);
    }

    private void toThePorter() {
        about = "What runs on from FLOOR 0 comes to THE PORTER";
        ThoughtsDrip x = new ThoughtsDrip();
        for (int p = 0; p < 6; p++) {
            x.person(8 * (p / 2) + 7 * (p % 2), ALWAYS);
            x.mend(10 * p + 2, 2, p + 1);
        }
        is("of all STACKS: 1 .. 6", x.porter(0, 2), 21);
        is("in an hour", x.caught(1, 2), 21);
        x.mend(0, 4, 9);
        is("not from stack 0", x.porter(0, 2), 18);
        x.mend(16, 4, 4);
        is("less from stack 2", x.porter(0, 2), 14);
        x.mend(23, 4, 9);
        is("not from its top", x.porter(0, 2), 8);
        x.hour();
        is("in deed", x.led(3), 8);
    }

    private void hourBehind11() {
        about = "Behind it HOUR is one more, behind 11: 0";
        ThoughtsDrip x = above(1);
        for (int k = 1; k <= 36; k++) {
            is("hour " + k, x.hour(), k % 12);
            is("HOUR", x.of(0, 6), k % 12);
            is("hours", x.led(0), k);
        }
        x.mend(0, 6, 11);
        is("from 11", x.hour(), 0);
        x.mend(0, 6, 10);
        is("from 10", x.hour(), 11);
        for (int out = 0; out < 12; out++) {
            x = above(9);
            x.mend(0, 1, 1 << out);
            x.mend(0, 6, 7);
            for (int n = 0; n <= 48; n++) {
                int passed = 0;
                for (int k = 0; k < n; k++) {
                    passed += (7 + k) % 12 == out ? 1 : 0;
                }
                is("from HOUR 7, out at " + out + ", " + n + " hours", x.wet(n, 10), 9 * passed);
                is("THE PORTER", x.caught(n, 0), 9 * passed);
            }
        }
    }

    private void mendAnswersWhatItWas() {
        about = "becomes v: what it was";
        ThoughtsDrip x = above(9);
        int[] numbers = {1, 1, 13, 13, 23, 0, 0};
        int[] most = {23, 4095, 9, 9999, 9, 9, 11};
        int[] was = {3, 4095, 0, 0, 0, 0, 0};
        for (int what = 0; what < 7; what++) {
            is("what it was", x.mend(numbers[what], what, 1), was[what]);
            is("1", x.mend(numbers[what], what, most[what]), 1);
            is("the most", x.mend(numbers[what], what, most[what]), most[what]);
            is("one too many", x.mend(numbers[what], what, most[what] + 1), BAD);
            is("stays", x.of(numbers[what], what), most[what]);
        }
        is("no such thing", x.mend(0, 7, 0), BAD);
        is("no such thing", x.of(0, 7), BAD);
    }
}

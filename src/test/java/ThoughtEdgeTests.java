/** What the document's second block says of hours in thought: each sentence's edges, worked out by hand. */
public final class ThoughtEdgeTests extends Asking {
    public static void main(String[] args) {
        ThoughtEdgeTests t = new ThoughtEdgeTests();
        t.noHours();
        t.fortyEightHours();
        t.mostOf();
        t.caughtInThem();
        t.firstWetter();
        t.firstOfNone();
        t.fromAbove();
        t.fromWithinTwelveHours();
        t.fromWettest();
        t.fromNobodyElse();
        t.dryAnyway();
        t.dryByFewest();
        t.dryByLeast();
        t.dryOfAnyFloor();
        t.dryNot();
        t.changeOfOne();
        t.changeFirstOfLike();
        t.changeLastOfAll();
        t.changeWettest();
        t.changeKeepsWithPeople();
        t.due.end("ThoughtEdgeTests");
    }

    /** 0 on top of stack 0 thinks 9 of MARK 0, 1 sits at FLOOR 3; both are always out. */
    private static ThoughtsDrip two() {
        ThoughtsDrip x = new ThoughtsDrip();
        x.person(7, ALWAYS);
        x.person(3, ALWAYS);
        x.mend(0, 2, 9);
        return x;
    }

    /** Six in stack 2, 0 on top and 5 at FLOOR 2, always out; each thinks his number and 1 of MARK 1. */
    private static ThoughtsDrip six() {
        ThoughtsDrip x = new ThoughtsDrip();
        for (int p = 0; p < 6; p++) {
            x.person(23 - p, ALWAYS);
            x.mend(10 * p + 1, 2, p + 1);
        }
        return x;
    }

    private void noHours() {
        about = "Behind n (0 ..) hours";
        for (int hour = 0; hour < 12; hour++) {
            ThoughtsDrip x = two();
            x.mend(0, 6, hour);
            x.mend(10, 3, 40);
            is("behind 0 from HOUR " + hour, x.wet(0, 10), 40);
            is("of all", x.most(0, 1, 0), 40);
            is("the MARK", x.most(0, 1, 1), 0);
            is("dry", x.most(0, 0, 1), NOT);
            is("THE PORTER", x.caught(0, 0), 0);
            is("behind 1", x.wet(1, 10), 49);
            is("THE PORTER behind 1", x.caught(1, 0), 9);
        }
        is("-1", two().wet(-1, 10), BAD);
        is("-1", two().most(-1, 1, 0), BAD);
        is("-1", two().caught(-1, 0), BAD);
    }

    private void fortyEightHours() {
        about = "Behind n (.. 48) hours";
        ThoughtsDrip x = two();
        for (int n = 0; n <= 48; n++) {
            is("WET", x.wet(n, 10), 9 * n);
            is("of all", x.most(n, 1, 0), 9 * n);
            is("THE PORTER", x.caught(n, 0), 9 * n);
        }
        is("49", x.wet(49, 10), BAD);
        is("49", x.most(49, 1, 0), BAD);
        is("49", x.caught(49, 0), BAD);
    }

    private void mostOf() {
        about = "the MARK one has most of (of like ones the least; NOT: dry)";
        ThoughtsDrip x = six();
        x.mend(10, 3, 7);
        is("0 is dry, whoever else is not", x.most(0, 0, 1), NOT);
        is("0 on top keeps dry", x.most(48, 0, 1), NOT);
        is("1 has 7 of MARK 0", x.most(0, 1, 1), 0);
        is("behind 6 hours 6 of MARK 1", x.most(6, 1, 1), 0);
        is("behind 7 hours 7: the least", x.most(7, 1, 1), 0);
        is("behind 8 hours 8", x.most(8, 1, 1), 1);
        for (int mark = 0; mark < 4; mark++) {
            x = six();
            x.mend(50 + mark, 3, 1);
            is("1 of MARK " + mark + " is enough", x.most(0, 5, 1), mark);
            is("of all", x.most(0, 5, 0), 1);
            x.mend(53, 3, 1);
            is("as much of MARK 3", x.most(0, 5, 1), mark);
            x.mend(53, 3, 2);
            is("more of MARK 3", x.most(0, 5, 1), 3);
        }
        x = six();
        for (int mark = 0; mark < 4; mark++) {
            x.mend(40 + mark, 3, 9999);
        }
        is("9999 of all: the least", x.most(48, 4, 1), 0);
        is("9999 of all", x.most(48, 4, 0), 39996);
        x.mend(40, 3, 9998);
        is("but of MARK 0", x.most(48, 4, 1), 1);
    }

    private void caughtInThem() {
        about = "all of a MARK that came to THE PORTER in them";
        ThoughtsDrip x = two();
        x.mend(10, 3, 9999);
        is("whatever is WET", x.caught(48, 0), 432);
        x.mend(0, 5, 9);
        is("past IRON 9: 9, 6, 3", x.caught(48, 0), 0);
        x.mend(0, 0, 1);
        is("from FLOOR 1: 9, 6, 3", x.caught(48, 0), 144);
        is("of another MARK", x.caught(48, 1), 0);
        is("nobody", new ThoughtsDrip().caught(48, 3), 0);
        is("what came so far is not counted", x.hour(), 1);
        is("in an hour", x.caught(1, 0), 3);
    }

    private void firstWetter() {
        about = "FIRST: behind how many hours (0 .. 48) one is first WETTER than now";
        for (int hour = 0; hour < 12; hour++) {
            for (int out = 0; out < 12; out++) {
                ThoughtsDrip x = two();
                x.mend(0, 6, hour);
                x.mend(0, 1, 1 << out);
                is("from HOUR " + hour + ", out at " + out, x.first(1), (out - hour + 12) % 12 + 1);
            }
        }
        ThoughtsDrip x = two();
        x.mend(10, 3, 9998);
        is("9998: by 1 more", x.first(1), 1);
        x.mend(3, 4, 8);
        is("but 1 past the AWNING", x.first(1), 1);
        for (int mark = 1; mark < 4; mark++) {
            x = two();
            x.mend(10, 3, 9999);
            x.mend(mark, 2, 1);
            is("of MARK " + mark + " alone", x.first(1), 1);
        }
    }

    private void firstOfNone() {
        about = "FIRST: NOT";
        ThoughtsDrip x = two();
        is("on top", x.first(0), NOT);
        x.mend(10, 3, 500);
        x.mend(3, 4, 9);
        is("WET now, but no WETTER then", x.first(1), NOT);
        x.mend(3, 4, 0);
        x.mend(10, 3, 9999);
        is("WET as may be", x.first(1), NOT);
        x.mend(10, 3, 0);
        x.mend(0, 1, 0b101010101010);
        x.mend(1, 1, 0b010101010101);
        is("never out together", x.first(1), NOT);
        x.mend(1, 1, 0);
        is("never out", x.first(1), NOT);
        ThoughtsDrip alone = new ThoughtsDrip();
        alone.person(0, ALWAYS);
        is("alone", alone.first(0), NOT);
    }

    private void fromAbove() {
        about = "FROM, REACH: which others (bits)";
        ThoughtsDrip x = six();
        for (int p = 0; p < 6; p++) {
            is("all above " + p, x.from(p, 0), (1 << p) - 1);
            is("all below " + p, x.from(p, 1), 63 & ~((2 << p) - 1));
        }
        x.mend(1, 2, 0);
        is("who thinks nothing is none", x.from(5, 0), 0b11110);
        is("nor reaches any", x.from(0, 1), 0);
        x.moves(1, 20);
        is("beside him, no more", x.from(3, 0), 0b100);
        is("nor he the other one", x.from(3, 1), 0b110000);
        x.moves(2, 0);
        is("in another STACK", x.from(5, 0), 0b11010);
        is("there alone", x.from(2, 0) + x.from(2, 1), 0);
        ThoughtsDrip alone = new ThoughtsDrip();
        alone.person(0, ALWAYS);
        alone.mend(0, 2, 9);
        is("none else", alone.from(0, 0) + alone.from(0, 1), 0);
    }

    private void fromWithinTwelveHours() {
        about = "FROM: in the next 12 hours, the two OUT by OUT";
        for (int hour = 0; hour < 12; hour++) {
            for (int out = 0; out < 12; out++) {
                ThoughtsDrip x = two();
                x.mend(0, 6, hour);
                x.mend(1, 1, 1 << out);
                is("together at " + out + " from HOUR " + hour, x.from(1, 0), 1);
                x.mend(0, 1, ALWAYS & ~(1 << out));
                is("never together", x.from(1, 0), 0);
                is("never together", x.from(0, 1), 0);
            }
        }
    }

    private void fromWettest() {
        about = "WETTER: by WET of all MARKS together, 9999 of each at most";
        ThoughtsDrip x = two();
        x.mend(10, 3, 9999);
        is("no WETTER", x.from(1, 0), 0);
        is("none is reached", x.from(0, 1), 0);
        x.mend(3, 2, 1);
        is("of MARK 3", x.from(1, 0), 1);
        is("of MARK 3", x.from(0, 1), 2);
        x.mend(3, 2, 0);
        x.mend(10, 3, 9998);
        is("by 1", x.from(1, 0), 1);
        is("by 1", x.from(0, 1), 2);
        x.mend(3, 4, 9);
        is("past AWNING 9", x.from(1, 0), 0);
    }

    private void fromNobodyElse() {
        about = "FROM: nobody else is there";
        ThoughtsDrip x = two();
        x.person(5, ALWAYS);
        x.mend(20, 2, 2);
        x.mend(4, 4, 9);
        is("11 and the two together get through: none alone", x.from(1, 0), 0);
        is("though he is WETTER", x.first(1), 1);
        tell(x, "f=5&n?0;a");
        x.mend(4, 4, 0);
        is("who'd hold it back is not there", x.from(1, 0), 1);
        is("though 1 keeps dry by him", x.first(1), NOT);
        tell(x, "f=5&n=0?0;a");
        is("who'd let it through is not there", x.from(1, 0), 0b100);
        is("though 1 gets WETTER", x.wet(1, 10), 11);
    }

    private void dryAnyway() {
        about = "DRY: 0, if he keeps dry anyway";
        ThoughtsDrip x = two();
        is("on top", x.dry(0, 0) + x.dry(0, 1), 0);
        x.mend(10, 3, 9999);
        is("as WET as may be", x.dry(1, 0) + x.dry(1, 1), 0);
        x.mend(10, 3, 9998);
        is("by 1", x.dry(1, 0), 1);
        x.mend(1, 1, 0);
        is("never out", x.dry(1, 0) + x.dry(1, 1), 0);
        x.mend(1, 1, 1 << 11);
        is("at HOUR 11 alone", x.dry(1, 0), 1);
        x.mend(3, 4, 9);
        is("an AWNING is out already", x.dry(1, 0) + x.dry(1, 1), 0);
        x.mend(3, 4, 8);
        is("one of 8", x.dry(1, 1), 8);
        ThoughtsDrip alone = new ThoughtsDrip();
        alone.person(16, ALWAYS);
        is("alone", alone.dry(0, 0) + alone.dry(0, 1), 0);
    }

    private void dryByFewest() {
        about = "DRY: the fewest FLATS, whose AWNINGS, made 9, keep one as WET as now";
        // 1 at FLOOR 0; all others on top, 9 each: an AWNING of 9 for each of them.
        ThoughtsDrip x = new ThoughtsDrip();
        x.person(8, ALWAYS);
        is("0 of them", x.dry(0, 0), 0);
        for (int p = 1; p < 6; p++) {
            x.person(15, ALWAYS);
            x.mend(10 * p + 3, 2, 9);
            is(p + " of 9", x.dry(0, 0), p);
            is(p + " of 9: the least FLOORS", x.dry(0, 1), (1 << p) - 1);
        }
        for (int flat = 9; flat < 16; flat++) {
            x.mend(flat, 4, 1);
        }
        is("45 less 7, his own 9 and 8 more by each of 4", x.dry(0, 0), 5);
        x.mend(15, 4, 8);
        x.mend(14, 4, 8);
        x.mend(13, 4, 8);
        x.mend(12, 4, 8);
        x.mend(11, 4, 8);
        is("45 less 40 and 2: one is enough", x.dry(0, 0), 1);
        is("the least", x.dry(0, 1), 1);
        tell(x, "a-(w=9)*6");
        is("his own 9 and 6 by each of 6", x.dry(0, 0), 7);
        is("his own and FLOORS 1 .. 6", x.dry(0, 1), 127);
    }

    private void dryByLeast() {
        about = "DRY: which FLOORS (bits; of like ones the least)";
        for (int at = 0; at < 7; at++) {
            ThoughtsDrip x = new ThoughtsDrip();
            x.person(23, ALWAYS);
            x.person(16 + at, ALWAYS);
            x.mend(2, 2, 9);
            is("one at FLOOR " + at, x.dry(1, 0), 1);
            is("his own is the least that keeps him dry", x.dry(1, 1), 1 << at);
            x.person(23, ALWAYS);
            x.mend(20, 2, 9);
            is("of another MARK: his own does for both", x.dry(1, 1), 1 << at);
            x.mend(22, 2, 9);
            is("18: his own and the next", x.dry(1, 1), 3 << at);
        }
        ThoughtsDrip x = two();
        tell(x, "w<9?a;0");
        x.mend(0, 2, 9);
        x.person(7, ALWAYS);
        x.mend(20, 2, 9);
        is("any above him holds all: the least above", x.dry(1, 1), 16);
        tell(x, "w<9|f<7?a;0");
        is("but the top alone", x.dry(1, 1), 128);
    }

    private void dryOfAnyFloor() {
        about = "DRY: FLATS of his STACK (any of them, his own, too)";
        ThoughtsDrip x = two();
        x.mend(3, 4, 5);
        is("his own, 5 of 9", x.dry(1, 1), 8);
        tell(x, "(f=7)*(a-w)+(f<7)*a");
        is("his own holds nothing back, but keeps him dry", x.dry(1, 1), 8);
        x.person(7, ALWAYS);
        x.mend(20, 2, 9);
        is("18: his own and the top", x.dry(1, 1), 136);
        x.moves(1, 19);
        is("in another STACK", x.dry(1, 0), 0);
        x.moves(0, 23);
        is("9 come to stack 2", x.dry(1, 1), 8);
        x.mend(23, 4, 9);
        is("nothing comes", x.dry(1, 1), 0);
        is("in thought alone", x.of(19, 4), 0);
    }

    private void dryNot() {
        about = "DRY: NOT: not even all";
        ThoughtsDrip x = two();
        tell(x, "a");
        is("his own", x.dry(1, 0), 1);
        x.person(7, ALWAYS);
        x.mend(20, 2, 1);
        is("10, by one more than his own", x.dry(1, 0), NOT);
        is("10", x.dry(1, 1), NOT);
        x.mend(20, 2, 0);
        is("9", x.dry(1, 1), 8);
        tell(x, "a+0*w");
        x.mend(21, 2, 9);
        x.mend(1, 2, 1);
        is("of one MARK is enough", x.dry(1, 0), NOT);
        x.mend(11, 3, 9999);
        is("but he is as WET of it as may be", x.dry(1, 0), 1);
    }

    private void changeOfOne() {
        about = "CHANGE: alone";
        ThoughtsDrip x = new ThoughtsDrip();
        x.person(5, ALWAYS);
        x.mend(0, 2, 9);
        for (int way = 0; way < 2; way++) {
            is("no WETTER", x.change(0, way, -1), 0);
            is("stays", x.change(0, way, 0), 5);
            is("no other", x.change(0, way, 1), BAD);
        }
        ThoughtsDrip y = two();
        y.moves(1, 7);
        is("both in one FLAT", y.change(10, 1, -1), 0);
        is("both in one FLAT", y.change(10, 1, 0) * 10 + y.change(10, 1, 1), 77);
    }

    private void changeFirstOfLike() {
        about = "CHANGE: of like dealings the first, by whose FLAT PEOPLE 0 on get";
        ThoughtsDrip x = six();
        for (int p = 0; p < 6; p++) {
            is("of MARK 0 none is WETTER: all stay", x.change(0, 0, p), 23 - p);
            is("of MARK 0 none is WETTER: all stay", x.change(50, 1, p), 23 - p);
        }
        // 5 keeps dry on top alone: 0 gets the least of the others then, and so on.
        is("5 keeps dry", x.change(51, 0, -1), 0);
        is("0 gets 1's", x.change(51, 0, 0), 22);
        is("1 gets 2's", x.change(51, 0, 1), 21);
        is("4 gets 5's", x.change(51, 0, 4), 18);
        is("5 gets 0's", x.change(51, 0, 5), 23);
        // 0 gets most below all others, however they are dealt: 2 + .. + 6 = 20.
        is("0 by 20 each hour", x.change(1, 1, -1), 240);
        is("0 gets 5's", x.change(1, 1, 0), 18);
        is("1 gets 0's", x.change(1, 1, 1), 23);
        is("5 gets 4's", x.change(1, 1, 5), 19);
        is("2 by 1 + 2 + 4 + 5 + 6", x.change(21, 1, -1), 216);
        is("0 stays then", x.change(21, 1, 0), 23);
        is("1 stays then", x.change(21, 1, 1), 22);
        is("2 gets 5's", x.change(21, 1, 2), 18);
        is("3 gets 2's", x.change(21, 1, 3), 21);
        is("4 gets 3's", x.change(21, 1, 4), 20);
        is("5 gets 4's", x.change(21, 1, 5), 19);
    }

    private void changeLastOfAll() {
        about = "CHANGE: all dealings";
        // Nothing runs on but if 5 sits on FLOOR 5, 4 on FLOOR 4 and so on: the last of the 720.
        ThoughtsDrip x = new ThoughtsDrip();
        for (int p = 0; p < 6; p++) {
            x.person(5 - p, ALWAYS);
            x.mend(10 * p, 2, p + 1);
        }
        is("law", tell(x, "f=5?a*(a=6);f=4?a*(a=11);f=3?a*(a=15);f=2?a*(a=18);a*(a=20)"), 1);
        is("20 an hour", x.change(0, 1, -1), 240);
        for (int p = 0; p < 6; p++) {
            is("all the other way round", x.change(0, 1, p), p);
        }
        is("none", x.change(0, 0, -1), 0);
        is("none: all stay", x.change(0, 0, 0), 5);
    }

    private void changeWettest() {
        about = "CHANGE: how much WETTER, 9999 at most";
        ThoughtsDrip x = two();
        x.mend(10, 2, 5);
        int[] before = {9999, 9998, 9940, 9939, 9938, 0};
        int[] gets = {0, 1, 59, 60, 60, 60};
        for (int k = 0; k < before.length; k++) {
            x.mend(0, 3, before[k]);
            is("from " + before[k], x.change(0, 1, -1), gets[k]);
            is("whose FLAT", x.change(0, 1, 0), before[k] == 9999 ? 7 : 3);
            is("least", x.change(0, 0, -1), 0);
            is("by staying", x.change(0, 0, 0), 7);
        }
        x.mend(10, 3, 9999);
        is("1 no WETTER: all stay", x.change(10, 0, 1) + x.change(10, 1, 1), 6);
        x.mend(10, 3, 9998);
        is("1 by 1, where he is", x.change(10, 1, -1), 1);
        is("1 by 1, where he is", x.change(10, 1, 1), 3);
        is("not on top", x.change(10, 0, 1), 7);
    }

    private void changeKeepsWithPeople() {
        about = "CHANGE: OUT, THINKS stay with PEOPLE";
        ThoughtsDrip x = two();
        x.mend(0, 1, 0b111);
        x.mend(10, 2, 4);
        is("1 by 0, at 3 hours", x.change(10, 1, -1), 27);
        is("0 by 1, at 3 hours", x.change(0, 1, -1), 12);
        x.mend(1, 1, 0b1100);
        is("0 by 1, at HOUR 2", x.change(0, 1, -1), 4);
        is("in thought alone", x.of(0, 0) * 10 + x.of(1, 0), 73);
        x.mend(3, 4, 1);
        is("AWNINGS stay with FLATS", x.change(0, 1, -1), 3);
    }
}

/** What the document's third and fourth blocks say of basins, rents, odds, turns and draws: edges worked out by hand. */
public final class GuessEdgeTests extends Asking {
    private static final long WRONG = Long.MIN_VALUE;

    public static void main(String[] args) {
        GuessEdgeTests t = new GuessEdgeTests();
        t.whoWithoutPeople();
        t.whoOfSix();
        t.whoWhateverOut();
        t.whoAllFour();
        t.whoBytes();
        t.basinElseBad();
        t.thoughtLeastAndMost();
        t.thoughtAtAnHour();
        t.thoughtAllElse();
        t.rentShares();
        t.rentCut();
        t.rentOfWhatComes();
        t.rentOfEachFlat();
        t.swapWho();
        t.swapNot();
        t.swapOfSix();
        t.oddsOfNone();
        t.oddsOfSix();
        t.oddsLowest();
        t.meanFractions();
        t.oddsOfEachFlat();
        t.turnsWho();
        t.turnsMark();
        t.turnsOthersByOut();
        t.turnsBestOfBoth();
        t.turnsWettest();
        t.drawnEachNight();
        t.drawnEachOne();
        t.drawnOut();
        t.drawnBounds();
        t.due.end("GuessEdgeTests");
    }

    /** 0 on top of stack 0 thinks 9 of MARK 0, 1 sits at FLOOR 3; both are always out. */
    private static ThoughtsDrip two() {
        ThoughtsDrip x = new ThoughtsDrip();
        x.person(7, ALWAYS);
        x.person(3, ALWAYS);
        x.mend(0, 2, 9);
        return x;
    }

    /** Six in stack 1, 0 on top and 5 at FLOOR 2; each thinks v of MARK 2. */
    private static ThoughtsDrip six(int v) {
        ThoughtsDrip x = new ThoughtsDrip();
        for (int p = 0; p < 6; p++) {
            x.person(15 - p, ALWAYS);
            x.mend(10 * p + 2, 2, v);
        }
        return x;
    }

    private void who(String text, ThoughtsDrip x, int many, int least, int certain) {
        for (int hour = 0; hour < 12; hour += 11) {
            is(text + ", how many at " + hour, x.who(0, hour, 0), many);
            is(text + ", the least at " + hour, x.who(0, hour, 1), least);
            is(text + ", certain at " + hour, x.who(0, hour, 2), certain);
        }
    }

    private void whoWithoutPeople() {
        about = "WHO: nobody";
        ThoughtsDrip x = new ThoughtsDrip();
        basin(x, 0, 0, 0, 0, 0);
        who("nothing came: the set of none", x, 1, 0, 0);
        basin(x, 0, 0, 0, 0, 1);
        who("1 came", x, 0, NOT, 0);
    }

    private void whoOfSix() {
        about = "WHO: how many sets; the least (bits; NOT); CERTAIN: 0 without any";
        ThoughtsDrip x = six(0);
        basin(x, 0, 0, 0, 0, 0);
        who("six who think nothing: all sets", x, 64, 0, 0);
        x = six(1);
        int[] many = {1, 6, 15, 20, 15, 6, 1};
        for (int came = 0; came <= 6; came++) {
            basin(x, 0, 0, 0, came, 0);
            who(came + " of six", x, many[came], (1 << came) - 1, came == 6 ? 63 : 0);
        }
        basin(x, 0, 0, 0, 7, 0);
        who("more than all", x, 0, NOT, 0);
        x = six(9);
        basin(x, 0, 0, 0, 54, 0);
        who("9 of each", x, 1, 63, 63);
        x.mend(52, 2, 1);
        basin(x, 0, 0, 0, 10, 0);
        who("5 and one other", x, 5, 33, 32);
    }

    private void whoWhateverOut() {
        about = "WHO: any, whatever OUT is told";
        ThoughtsDrip x = six(1);
        for (int p = 0; p < 6; p++) {
            x.mend(p, 1, 0);
        }
        basin(x, 0, 0, 0, 6, 0);
        who("none is told OUT", x, 1, 63, 63);
        basin(x, 0, 0, 0, 0, 0);
        who("none is told OUT", x, 1, 0, 0);
        is("OUT stays", x.of(5, 1), 0);
    }

    private void whoAllFour() {
        about = "A BASIN: all four must be so";
        ThoughtsDrip x = new ThoughtsDrip();
        x.person(0, 0);
        for (int mark = 0; mark < 4; mark++) {
            x.mend(mark, 2, mark + 1);
        }
        basin(x, 0, 1, 2, 3, 4);
        who("just so", x, 1, 1, 1);
        for (int mark = 0; mark < 4; mark++) {
            x.put(0, mark, 0);
            who("one less", x, 0, NOT, 0);
            is("no thought, either", x.thought(0, 0, 3, 0), 0);
            x.put(0, mark, mark + 2);
            who("one more", x, 0, NOT, 0);
            x.put(0, mark, mark + 1);
        }
        who("just so again", x, 1, 1, 1);
    }

    private void whoBytes() {
        about = "a ROW of bytes";
        ThoughtsDrip x = six(9);
        basin(x, 0, 0, 0, 54 + 256, 0);
        who("its lowest bits", x, 1, 63, 63);
        basin(x, 0, 0, 0, -1, 0);
        who("below 0", x, 0, NOT, 0);
        basin(x, 0, 0, 0, 127, 0);
        who("127", x, 0, NOT, 0);
        basin(x, 0, 0, 0, 128, 0);
        who("-128", x, 0, NOT, 0);
        basin(x, 0, 0, 0, 256, 0);
        who("256 is 0", x, 1, 0, 0);
    }

    private void basinElseBad() {
        about = "BASIN: four bytes, else BAD; -11, -12";
        ThoughtsDrip x = six(1);
        for (int n = 0; n <= 60; n++) {
            if (n != 4) {
                x.row(1, 0, n);
                is(n + " bytes", x.who(1, 0, 0), BAD);
                is(n + " bytes", x.thought(1, 0, 2, 0), BAD);
            }
        }
        for (int sort = 1; sort < 5; sort++) {
            x.row(1, sort, 4);
            is("sort " + sort, x.who(1, 0, 0), KIND);
            is("sort " + sort, x.thought(1, 0, 2, 0), KIND);
        }
        is("nothing", x.who(2, 0, 0), NONE);
        is("nothing", x.thought(2, 0, 2, 0), NONE);
        x.body(2);
        x.keep(2, 0);
        is("a BODY of KIND 2, BASIN", x.who(2, 0, 0), KIND);
        is("a BODY of KIND 2, BASIN", x.thought(2, 0, 2, 0), KIND);
        is("BAD ahead of -11", x.who(3, 12, 0), BAD);
        is("BAD ahead of -11", x.who(3, 0, 3), BAD);
        is("BAD ahead of -12", x.who(2, -1, 0), BAD);
        is("BAD ahead of -11", x.thought(3, 12, 2, 0), BAD);
        is("BAD ahead of -11", x.thought(3, 0, 4, 0), BAD);
        is("BAD ahead of -12", x.thought(2, 0, 60, 0), BAD);
        is("BAD ahead of -12", x.thought(2, 0, 2, 2), BAD);
    }

    private void thoughtLeastAndMost() {
        about = "THOUGHT: how much (0 .. 9): how many; the least (NOT)";
        ThoughtsDrip x = two();
        for (int came = -1; came <= 11; came++) {
            basin(x, 0, came, 0, 0, 0);
            boolean may = came >= 0 && came <= 9;
            is(came + " came: how many", x.thought(0, 4, 0, 0), may ? 1 : 0);
            is(came + " came: the least", x.thought(0, 4, 0, 1), may ? came : NOT);
        }
        tell(x, "a/2");
        for (int came = 0; came <= 4; came++) {
            x.mend(0, 0, 0);
            basin(x, 0, came, 0, 0, 0);
            is("half: " + came + " came", x.thought(0, 4, 0, 0), 2);
            is("half: " + came + " came, the least", x.thought(0, 4, 0, 1), 2 * came);
        }
        tell(x, "0");
        basin(x, 0, 0, 0, 0, 0);
        is("any of the ten", x.thought(0, 4, 0, 0), 10);
        is("the least", x.thought(0, 4, 0, 1), 0);
    }

    private void thoughtAtAnHour() {
        about = "THOUGHT: just that comes at that HOUR";
        ThoughtsDrip x = two();
        x.mend(0, 1, 1 << 11);
        basin(x, 0, 5, 0, 0, 0);
        for (int hour = 0; hour < 12; hour++) {
            is("out at 11 alone, at " + hour, x.thought(0, hour, 0, 1), hour == 11 ? 5 : NOT);
        }
        basin(x, 0, 0, 0, 0, 0);
        is("in: whatever he thinks", x.thought(0, 10, 0, 0), 10);
        is("out: nothing", x.thought(0, 11, 0, 0), 1);
        is("out: nothing", x.thought(0, 11, 0, 1), 0);
        x.mend(0, 6, 10);
        is("whatever HOUR is now", x.thought(0, 11, 0, 0), 1);
    }

    private void thoughtAllElse() {
        about = "THOUGHT: all else as it is";
        ThoughtsDrip x = six(3);
        basin(x, 0, 0, 0, 18, 0);
        for (int p = 0; p < 6; p++) {
            is("as it is", x.thought(0, 0, 10 * p + 2, 1), 3);
            is("not of another MARK", x.thought(0, 0, 10 * p + 3, 1), 0);
            is("one", x.thought(0, 0, 10 * p + 3, 0), 1);
        }
        basin(x, 0, 0, 0, 24, 9);
        is("two MARKS amiss", x.thought(0, 0, 52, 0) + x.thought(0, 0, 53, 0), 0);
        x.mend(3, 2, 9);
        is("one MARK amiss", x.thought(0, 0, 52, 1), 9);
        is("THINKS stays", x.of(52, 2), 3);
        is("none of it behind a call", x.porter(0, 2), 18);
    }

    private void rentShares() {
        about = "RENT: v (0 .. 999) is shared among PEOPLE";
        ThoughtsDrip x = six(0);
        is("an equal share", x.rent(0, 6), 1);
        is("cut", x.rent(5, 5), 0);
        is("999 by 6", x.rent(3, 999), 166);
        is("none", x.rent(3, 0), 0);
        is("1000", x.rent(3, 1000), BAD);
        is("-1", x.rent(3, -1), BAD);
        is("no such one", x.rent(6, 1), BAD);
        ThoughtsDrip alone = new ThoughtsDrip();
        is("nobody", alone.rent(0, 1), BAD);
        alone.person(0, 0);
        for (int v = 0; v < 1000; v += 111) {
            is("all of it", alone.rent(0, v), v);
        }
    }

    private void rentCut() {
        about = "RENT: v by his, by all (both as fractions; cut)";
        // 1 by 1 and 1 by 1 + 12 * 9: 109 parts and 1 part.
        ThoughtsDrip x = two();
        for (int v = 0; v <= 999; v += 9) {
            if (v % 180 == 0) {
                x = two();
            }
            is("109 of 110", x.rent(0, v), v * 109 / 110);
            is("1 of 110", x.rent(1, v), v / 110);
        }
        is("just 1", x.rent(1, 110), 1);
        is("just not", x.rent(1, 109), 0);
        is("just 9", x.rent(1, 990), 9);
    }

    private void rentOfWhatComes() {
        about = "RENT: 1 by (1 and all that COMES there in 12 hours, of all MARKS)";
        ThoughtsDrip x = two();
        x.mend(0, 1, 1 << 11);
        is("9 at HOUR 11: 10 of 11 parts", x.rent(0, 11), 10);
        x.mend(1, 1, 0);
        is("he himself in or out", x.rent(1, 11), 1);
        x.mend(3, 4, 9);
        is("his AWNING or none", x.rent(1, 11), 1);
        x.mend(0, 6, 7);
        is("from whatever HOUR", x.rent(1, 11), 1);
        x.mend(10, 3, 9999);
        is("however WET he is", x.rent(1, 11), 1);
        x.mend(3, 2, 2);
        is("2 of MARK 3, too: 12 of 13", x.rent(0, 13), 12);
        x.moves(1, 8);
        is("another STACK: even", x.rent(1, 13), 6);
        ThoughtsDrip y = six(9);
        for (int p = 0; p < 6; p++) {
            for (int mark = 0; mark < 4; mark++) {
                y.mend(10 * p + mark, 2, 9);
            }
            y.mend(p, 0, p == 0 ? 7 : 0);
        }
        // 1 by 1, five times 1 by 433.
        is("433 of 438", y.rent(0, 438), 433);
        is("1 of 438", y.rent(5, 438), 1);
        is("1 of 438, not all", y.rent(4, 437), 0);
    }

    /** 0 in a FLAT, 1 on top of its STACK thinking 9 of a MARK at every HOUR. */
    private static ThoughtsDrip beneath(int flat, int mark) {
        ThoughtsDrip x = new ThoughtsDrip();
        x.person(flat, ALWAYS);
        x.person(flat / 8 * 8 + 7, ALWAYS);
        x.mend(10 + mark, 2, 9);
        return x;
    }

    private void rentOfEachFlat() {
        about = "RENT: all that COMES there, to each FLAT";
        for (int flat = 0; flat < 24; flat++) {
            // 1 by (1 and 12 times 9) beside 1 by 1; both 1 by 1, if he is on top, too.
            boolean top = flat % 8 == 7;
            ThoughtsDrip x = beneath(flat, flat % 4);
            is("in FLAT " + flat, x.rent(0, 110), top ? 55 : 1);
            is("above FLAT " + flat, x.rent(1, 110), top ? 55 : 109);
        }
    }

    private void swapWho() {
        about = "SWAP: who (the least) of others";
        ThoughtsDrip x = two();
        x.mend(0, 2, 0);
        is("none less: nothing drips", x.swap(0) + x.swap(1), 2 * NOT);
        x.mend(0, 2, 9);
        is("1 on top is dry, 0 below him too", x.swap(1), 0);
        is("0 with 1", x.swap(0), 1);
        x.mend(10, 2, 1);
        is("0 would be WETTER", x.swap(0), NOT);
        is("0 would be WETTER", x.swap(1), NOT);
        x.mend(1, 3, 5);
        x.mend(0, 3, 9999);
        is("0 may not be WETTER of MARK 0", x.swap(1), 0);
        x.mend(0, 3, 9998);
        is("but 1 from 9998", x.swap(1), NOT);
    }

    private void swapNot() {
        about = "SWAP: NOT";
        ThoughtsDrip alone = new ThoughtsDrip();
        alone.person(3, ALWAYS);
        alone.mend(0, 2, 9);
        is("alone", alone.swap(0), NOT);
        alone.person(3, ALWAYS);
        is("in one FLAT", alone.swap(0), NOT);
        alone.person(7, ALWAYS);
        alone.mend(20, 2, 9);
        is("all think alike: one less is one more", alone.swap(0), NOT);
        ThoughtsDrip x = two();
        x.mend(10, 3, 9999);
        is("as WET as may be: none less", x.swap(1), NOT);
        x.mend(10, 3, 9998);
        is("1 less", x.swap(1), 0);
    }

    private void swapOfSix() {
        about = "SWAP: changing FLATS with one, of six";
        // 0 on top thinks, all below are dripped on; 5 is lowest.
        ThoughtsDrip x = six(0);
        x.mend(2, 2, 9);
        is("5 with 0: 0 is dry there, none thinks above", x.swap(5), 0);
        is("0 with the least", x.swap(0), 1);
        is("3 with 0", x.swap(3), 0);
        x.moves(0, 23);
        is("0 alone in stack 2: none drips on any", x.swap(0), NOT);
        is("none", x.swap(5), NOT);
        x.moves(5, 16);
        is("5 below 0: with 0", x.swap(5), 0);
        x.mend(5, 1, 1 << 11);
        is("9 at HOUR 11", x.swap(5), 0);
        x.mend(1, 1, 0);
        x.moves(0, 16);
        x.moves(5, 23);
        x.mend(52, 2, 1);
        is("5 drips 1 on 0 at HOUR 11: 0 with 1, who is in", x.swap(0), 1);
        x.mend(1, 1, ALWAYS);
        is("1 would be WETTER there; 5 would be by 9, too", x.swap(0), NOT);
        x.mend(5, 4, 0);
        x.mend(53, 2, 0);
        x.mend(5, 1, 0);
        is("never out: nothing drips", x.swap(5), NOT);
        x = six(0);
        x.mend(43, 2, 4);
        is("5 beneath 4: 0 .. 3 would be WETTER there, 4 not", x.swap(5), 4);
        is("4 with 5, who is less WET then", x.swap(4), 5);
        x.mend(50, 1, 0);
        is("no such one", x.swap(6), BAD);
    }

    private void fraction(String text, ThoughtsDrip x, int pm, boolean mean, long above, long below) {
        for (int hour = 0; hour < 12; hour += 11) {
            is(text + ", above", mean ? x.mean(pm, hour, 0) : x.odds(pm, hour, 0), above);
            is(text + ", below", mean ? x.mean(pm, hour, 1) : x.odds(pm, hour, 1), below);
        }
    }

    private void oddsOfNone() {
        about = "ODDS: 0 by 1";
        ThoughtsDrip x = new ThoughtsDrip();
        is("nobody", x.odds(0, 0, 0), WRONG);
        is("nobody", x.mean(0, 0, 1), WRONG);
        x.person(0, ALWAYS);
        x.mend(0, 2, 9);
        for (int mark = 0; mark < 4; mark++) {
            fraction("alone", x, mark, false, 0, 1);
            fraction("alone, MEAN", x, mark, true, 0, 1);
        }
        for (int p = 1; p < 6; p++) {
            x.person(p < 3 ? 0 : 15, ALWAYS);
            x.mend(10 * p, 2, 9);
            fraction("beside him, in another STACK", x, 0, false, 0, 1);
            fraction("beside him, in another STACK, MEAN", x, 0, true, 0, 1);
        }
    }

    private void oddsOfSix() {
        about = "ODDS: each other one is OUT or not, all alike likely";
        ThoughtsDrip x = six(9);
        int[] above = {0, 1, 3, 7, 15, 31};
        for (int p = 0; p < 6; p++) {
            fraction("below " + p + " others", x, 10 * p + 2, false, above[p], above[p] + 1);
            fraction("of another MARK", x, 10 * p + 3, false, 0, 1);
        }
        for (int p = 0; p < 6; p++) {
            x.mend(p, 1, 0);
        }
        fraction("whatever OUT is told", x, 52, false, 31, 32);
        x.mend(11, 4, 9);
        fraction("past AWNING 9 of FLOOR 3: two and more of five, 26 of 32", x, 52, false, 13, 16);
    }

    private void oddsLowest() {
        about = "ODDS: a fraction in lowest terms";
        ThoughtsDrip x = six(0);
        int[] below = {2, 4, 8, 16, 32};
        for (int p = 0; p < 5; p++) {
            x.mend(10 * p + 2, 2, 1);
            fraction((p + 1) + " of 5 think", x, 52, false, below[p] - 1, below[p]);
        }
        tell(x, "f=3&a<5?0;a");
        fraction("all five", x, 52, false, 1, 32);
        tell(x, "f=3&a<4?0;a");
        fraction("four or five: 6 of 32", x, 52, false, 3, 16);
        tell(x, "f=3&a<3?0;a");
        fraction("three and more: 16 of 32", x, 52, false, 1, 2);
        tell(x, "f=3&a<2?0;a");
        fraction("two and more: 26 of 32", x, 52, false, 13, 16);
        tell(x, "f=3?0;a");
        fraction("none", x, 52, false, 0, 1);
    }

    private void meanFractions() {
        about = "MEAN of how much COMES: a fraction in lowest terms";
        ThoughtsDrip x = six(9);
        int[] above = {0, 9, 9, 27, 18, 45};
        int[] below = {1, 2, 1, 2, 1, 2};
        for (int p = 0; p < 6; p++) {
            fraction("below " + p + " others", x, 10 * p + 2, true, above[p], below[p]);
        }
        tell(x, "f=3&a<45?0;a");
        fraction("45 in one of 32", x, 52, true, 45, 32);
        tell(x, "f=3?a/45*32;a");
        fraction("32 in one of 32", x, 52, true, 1, 1);
        tell(x, "f=3?a/45*8;a");
        fraction("8 in one of 32", x, 52, true, 1, 4);
        tell(x, "f=3?a/45;a");
        fraction("1 in one of 32", x, 52, true, 1, 32);
        tell(x, "0");
        fraction("none", x, 52, true, 0, 1);
    }

    private void oddsOfEachFlat() {
        about = "ODDS, MEAN: what COMES to him, in each FLAT";
        for (int flat = 0; flat < 24; flat++) {
            boolean top = flat % 8 == 7;
            ThoughtsDrip x = beneath(flat, flat % 4);
            fraction("ODDS in FLAT " + flat, x, flat % 4, false, top ? 0 : 1, top ? 1 : 2);
            fraction("MEAN in FLAT " + flat, x, flat % 4, true, top ? 0 : 9, top ? 1 : 2);
            fraction("above FLAT " + flat, x, 10 + flat % 4, false, 0, 1);
        }
    }

    private void turnsWho() {
        about = "BY TURNS: the first one first; n (1 .. 6)";
        ThoughtsDrip x = two();
        int[] gets = {9, 9, 18, 18, 27, 27};
        for (int n = 1; n <= 6; n++) {
            is(n + " hours", x.byTurns(10, n, 0), gets[n - 1]);
            is(n + " hours: goes", x.byTurns(10, n, 1), 1);
            is("0 on top gets none", x.byTurns(1, n, 0), 0);
            is("of like ones 0", x.byTurns(1, n, 1), 0);
        }
        is("0", x.byTurns(10, 0, 0), BAD);
        is("7", x.byTurns(10, 7, 0), BAD);
        is("one himself", x.byTurns(0, 1, 0), BAD);
        is("one himself", x.byTurns(11, 1, 0), BAD);
        is("no such other", x.byTurns(12, 1, 0), BAD);
        is("no such one", x.byTurns(21, 1, 0), BAD);
        for (int one = 0; one < 6; one++) {
            for (int other = 0; other < 6; other++) {
                ThoughtsDrip y = six(9);
                int want = one == other ? BAD : 9 * one;
                is(one + " and " + other, y.byTurns(10 * one + other, 1, 0), want);
            }
        }
    }

    private void turnsMark() {
        about = "BY TURNS: the other one's most thought MARK (greatest THINKS, of like ones the least)";
        for (int other = 0; other < 5; other++) {
            for (int mark = 0; mark < 4; mark++) {
                ThoughtsDrip x = six(0);
                for (int m = 0; m < 4; m++) {
                    x.mend(10 * other + m, 2, m < mark ? 4 : 5);
                    x.mend(50 + m, 3, 9990 + m);
                    x.mend(53 - m, 2, 9);
                }
                x.mend(10 * other + 10, 2, 9);
                int room = 9 - mark;
                int more = mark == 0 && other < 4 ? 14 : 5;
                is(other + ", MARK " + mark, x.byTurns(50 + other, 1, 0), Math.min(room, more));
            }
        }
        ThoughtsDrip x = two();
        x.mend(0, 2, 0);
        x.person(7, ALWAYS);
        x.mend(20, 2, 3);
        x.mend(21, 2, 8);
        is("the other one thinks nothing: MARK 0", x.byTurns(10, 1, 0), 3);
        x.mend(1, 2, 1);
        is("1 of MARK 1", x.byTurns(10, 1, 0), 9);
    }

    private void turnsOthersByOut() {
        about = "BY TURNS: who is not asked that HOUR, and all others, by OUT";
        ThoughtsDrip x = two();
        x.person(5, ALWAYS);
        x.mend(20, 2, 2);
        is("2 drips at each hour", x.byTurns(10, 1, 0), 11);
        is("and when 0 is asked: 1 is out as told, 0 stays in", x.byTurns(10, 2, 0), 13);
        is("6 hours", x.byTurns(10, 6, 0), 39);
        for (int hour = 0; hour < 12; hour++) {
            x.mend(0, 6, hour);
            is("from HOUR " + hour + ", an hour", x.byTurns(10, 1, 0), 11);
            is("from HOUR " + hour + ", two", x.byTurns(10, 2, 0), 13);
        }
        x.mend(0, 6, 0);
        x.mend(2, 1, 0b10);
        is("2 out at HOUR 1", x.byTurns(10, 1, 0), 9);
        is("2 out at HOUR 1", x.byTurns(10, 2, 0), 11);
        x.mend(1, 1, 0b1);
        is("1 in as told at HOUR 1", x.byTurns(10, 2, 0), 9);
        x.mend(1, 1, 0);
        is("asked he goes out, though told in", x.byTurns(10, 3, 0), 18);
        x.mend(0, 6, 11);
        is("from HOUR 11: HOURS 11, 0 (0 asked), 1 with 2", x.byTurns(10, 3, 0), 20);
        x.mend(0, 1, 0b100000000000);
        is("0 out at HOUR 11 alone", x.byTurns(10, 3, 0), 11);
        x.mend(0, 6, 0);
        is("from HOUR 0: 0 is in, asked he stays in", x.byTurns(10, 2, 0), 0);
        // The first one on a lower number than the other one.
        ThoughtsDrip y = new ThoughtsDrip();
        y.person(16, ALWAYS);
        y.person(17, ALWAYS);
        y.mend(13, 2, 6);
        is("0 and 1 above him", y.byTurns(1, 1, 0), 6);
        is("1 stays in, though told out", y.byTurns(1, 2, 0), 6);
        is("three hours", y.byTurns(1, 3, 0), 12);
        is("goes", y.byTurns(1, 3, 1), 1);
    }

    private void turnsBestOfBoth() {
        about = "BY TURNS: if both do their best";
        ThoughtsDrip x = two();
        x.person(7, ALWAYS);
        x.mend(20, 2, 8);
        tell(x, "f=7&n>1?a/2;a");
        is("17 by 2 on top", x.byTurns(10, 1, 0), 8);
        is("0 in: 8, 0 out: 8: all one", x.byTurns(10, 2, 0), 16);
        tell(x, "f=7&n>1?a/4;a");
        is("17 by 4 on top: 4", x.byTurns(10, 1, 0), 4);
        is("0 goes out to hold it back: 4", x.byTurns(10, 2, 0), 8);
        x.mend(0, 1, 0);
        is("told in: 8", x.byTurns(10, 1, 0), 8);
        is("but asked he goes out: 4", x.byTurns(10, 2, 0), 12);
        x.mend(3, 4, 4);
        is("past AWNING 4: 4, none", x.byTurns(10, 2, 0), 4);
        is("goes", x.byTurns(10, 2, 1), 1);
        x.mend(3, 4, 9);
        is("past AWNING 9", x.byTurns(10, 6, 0), 0);
        is("of like ones 0", x.byTurns(10, 6, 1), 0);
    }

    private void turnsWettest() {
        about = "BY TURNS: how much WETTER, 9999 at most; of like ones 0";
        ThoughtsDrip x = two();
        int[] before = {9999, 9998, 9990, 9989, 9981, 9980, 9972, 9971};
        int[] gets = {0, 1, 9, 10, 18, 19, 27, 27};
        int[] goes = {0, 0, 0, 1, 1, 1, 1, 1};
        for (int k = 0; k < before.length; k++) {
            x.mend(10, 3, before[k]);
            is("six hours from " + before[k], x.byTurns(10, 6, 0), gets[k]);
            is("goes from " + before[k], x.byTurns(10, 6, 1), before[k] >= 9981 ? 0 : 1);
            is("an hour from " + before[k], x.byTurns(10, 1, 0), Math.min(9, gets[k]));
            is("an hour: goes from " + before[k], x.byTurns(10, 1, 1), before[k] == 9999 ? 0 : 1);
            is("three hours: goes from " + before[k], x.byTurns(10, 3, 1), goes[k]);
        }
    }

    private void drawnEachNight() {
        about = "DRAWN: n nights from now: how much all are WETTER at the ends";
        // From SEED 5: with two of PEOPLE, who is out comes by the draws in turn.
        int z = 5;
        int both = 0;
        int zero = 0;
        for (int hour = 0; hour < 72; hour++) {
            z = z * 1103515245 + 12345;
            int first = z >> 8 & 1;
            z = z * 1103515245 + 12345;
            int second = z >> 8 & 1;
            both += first * second;
            zero += first;
        }
        ThoughtsDrip x = two();
        is("3 nights of 24 hours", x.drawn(5, 324, 0), 9 * both);
        is("THE PORTER", x.drawn(5, 324, 1), 9 * zero);
        x.mend(10, 3, 9998);
        is("1 each night", x.drawn(5, 324, 0), 3);
        is("THE PORTER", x.drawn(5, 324, 1), 9 * zero);
        x.mend(10, 3, 9999);
        is("none", x.drawn(5, 324, 0), 0);
        x.mend(0, 6, 11);
        x.mend(0, 1, 0);
        is("HOUR, OUT: whatever they are", x.drawn(5, 324, 1), 9 * zero);
        is("WET stays", x.of(10, 3), 9999);
    }

    private void drawnEachOne() {
        about = "DRAWN: how much all are WETTER at the ends, all MARKS: each of six, each MARK";
        for (int who = 1; who < 6; who++) {
            for (int mark = 0; mark < 4; mark++) {
                ThoughtsDrip x = new ThoughtsDrip();
                for (int p = 0; p < 6; p++) {
                    x.person(p == 0 ? 23 : p == who ? 16 : 0, 0);
                }
                x.mend(mark, 2, 9);
                int z = 11;
                int both = 0;
                for (int hour = 0; hour < 90; hour++) {
                    int set = 0;
                    for (int p = 0; p < 6; p++) {
                        z = z * 1103515245 + 12345;
                        set |= (z >>> 8) % 2 << p;
                    }
                    both += (set & 1) != 0 && (set >> who & 1) != 0 ? 1 : 0;
                }
                is(who + " of MARK " + mark + ", 30 nights of 3 hours", x.drawn(11, 3003, 0), 9 * both);
                is(who + " of MARK " + mark + ", 10 nights of 9 hours", x.drawn(11, 1009, 0), 9 * both);
            }
        }
    }

    private void drawnOut() {
        about = "DRAWN: OUT, if (z >>> 8) % 2 is 1; an int; ahead of each of PEOPLE in each hour";
        for (int seed : new int[] {0, 1, -1, 77, LEAST, GREATEST, -1000000, 123456789}) {
            for (int many = 1; many <= 6; many++) {
                ThoughtsDrip x = new ThoughtsDrip();
                int z = seed;
                int came = 0;
                for (int p = 0; p < many; p++) {
                    x.person(p, 0);
                    x.mend(10 * p, 2, p + 1);
                }
                for (int hour = 0; hour < 2; hour++) {
                    for (int p = 0; p < many; p++) {
                        z = z * 1103515245 + 12345;
                        came += (z >>> 8) % 2 == 1 ? p + 1 : 0;
                    }
                }
                is("SEED " + seed + ", " + many + " of PEOPLE, a night of 2 hours", x.drawn(seed, 102, 1), came);
                is("SEED " + seed + ", " + many + " of PEOPLE, 2 nights of an hour", x.drawn(seed, 201, 1), came);
            }
        }
        is("nobody", new ThoughtsDrip().drawn(5, 3024, 0), 0);
        is("nobody", new ThoughtsDrip().drawn(5, 3024, 1), 0);
    }

    private void drawnBounds() {
        about = "DRAWN: n nights (1 .. 30) of m hours (1 .. 24)";
        ThoughtsDrip x = two();
        int[] taken = {101, 124, 3001, 3024};
        int[] refused = {0, 1, 24, 100, 125, 199, 3000, 3025, 3100, 3101, 3124, -1, -101, -3024, 10101, LEAST, GREATEST};
        for (int nm : taken) {
            due.holds(about + ": " + nm, x.drawn(9, nm, 0) >= 0 && x.drawn(9, nm, 1) >= 0);
        }
        for (int nm : refused) {
            is(nm + "", x.drawn(9, nm, 0), BAD);
            is(nm + "", x.drawn(9, nm, 1), BAD);
        }
    }
}

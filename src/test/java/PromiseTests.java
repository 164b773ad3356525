/** For each promise of the document: ordinary inputs, the edges it names, wrong inputs. Answers worked out by hand. */
public final class PromiseTests extends Asking {
    private static final int[] NUMBERS_WRONG = {-1, Integer.MIN_VALUE, Integer.MAX_VALUE};

    public static void main(String[] args) {
        PromiseTests t = new PromiseTests();
        t.newObject();
        t.person();
        t.people();
        t.mend();
        t.of();
        t.feed();
        t.lawTexts();
        t.lawFaults();
        t.lawOpen();
        t.comes();
        t.porter();
        t.wet();
        t.most();
        t.caught();
        t.first();
        t.from();
        t.dry();
        t.change();
        t.who();
        t.thought();
        t.rent();
        t.swap();
        t.odds();
        t.mean();
        t.byTurns();
        t.drawn();
        t.hour();
        t.moves();
        t.awning();
        t.wipe();
        t.led();
        t.image();
        t.undoRedo();
        t.undoForty();
        t.body();
        t.act();
        t.trace();
        t.keep();
        t.row();
        t.put();
        t.element();
        t.shift();
        t.taken();
        t.count();
        t.nothingChanges();
        t.due.end("PromiseTests");
    }

    /** 0 on top of stack 0 thinking 9 of MARK 0, 1 beneath at FLOOR 3 thinking 2 of MARK 0 and 4 of MARK 1, both always out. */
    private static ThoughtsDrip two() {
        ThoughtsDrip x = new ThoughtsDrip();
        x.person(7, ALWAYS);
        x.person(3, ALWAYS);
        x.mend(0, 2, 9);
        x.mend(10, 2, 2);
        x.mend(11, 2, 4);
        return x;
    }

    private void newObject() {
        about = "promise 1";
        ThoughtsDrip x = new ThoughtsDrip();
        for (int what = 0; what <= 5; what++) {
            is("count(" + what + ")", x.count(what), 0);
        }
        for (int flat = 0; flat < 24; flat++) {
            is("of(" + flat + ", 4)", x.of(flat, 4), 0);
            is("comes(" + flat + ", 0, 1)", x.comes(flat, 0, 1), 0);
        }
        is("IRON", x.of(0, 5), 0);
        is("HOUR", x.of(0, 6), 0);
        for (int what = 0; what < 5; what++) {
            is("led(" + what + ")", x.led(what), 0);
        }
        for (int shelf = 0; shelf < 6; shelf++) {
            is("taken(" + shelf + ", 0)", x.taken(shelf, 0), NONE);
        }
        is("two objects are apart", new ThoughtsDrip().person(0, 0) + new ThoughtsDrip().person(1, 1), 0);
    }

    private void person() {
        about = "promise 2";
        ThoughtsDrip x = new ThoughtsDrip();
        is("person(23, 4095)", x.person(23, 4095), 0);
        is("person(0, 0)", x.person(0, 0), 1);
        is("person(0, 5)", x.person(0, 5), 2);
        is("person(24, 0)", x.person(24, 0), BAD);
        is("person(0, 4096)", x.person(0, 4096), BAD);
        for (int n : NUMBERS_WRONG) {
            is("person(" + n + ", 0)", x.person(n, 0), BAD);
            is("person(0, " + n + ")", x.person(0, n), BAD);
        }
        is("person(1, 1)", x.person(1, 1), 3);
        is("person(1, 1)", x.person(1, 1), 4);
        is("person(1, 1)", x.person(1, 1), 5);
        is("person(1, 1), a seventh", x.person(1, 1), FULL);
        is("person(24, 1), a seventh", x.person(24, 1), BAD);
        is("of(0, 0)", x.of(0, 0), 23);
        is("of(0, 1)", x.of(0, 1), 4095);
        is("of(2, 1)", x.of(2, 1), 5);
        is("THINKS at first", x.of(53, 2), 0);
        is("WET at first", x.of(50, 3), 0);
        is("count(0)", x.count(0), 6);
    }

    private void people() {
        about = "promise 3";
        ThoughtsDrip x = new ThoughtsDrip();
        shorts(x, 0, 5, 6, 7, 8, 9);
        is("place below 0", x.people(0, -1, 1), 0);
        is("far below 0", x.people(0, Integer.MIN_VALUE, 6), 0);
        is("far behind", x.people(0, Integer.MAX_VALUE, 6), 0);
        is("ends within a two", x.people(0, 4, 1), 0);
        is("ends", x.people(0, 5, 1), 0);
        is("n 0", x.people(0, 0, 0), BAD);
        is("n 7", x.people(0, 0, 7), BAD);
        is("n -1", x.people(0, 0, -1), BAD);
        is("shelf -1", x.people(-1, 0, 1), BAD);
        is("shelf 6", x.people(6, 0, 1), BAD);
        is("nothing there", x.people(1, 0, 1), 0);
        is("nothing there, n 7", x.people(1, 0, 7), BAD);
        for (int sort = 0; sort < 5; sort++) {
            if (sort != 1) {
                x.row(2, sort, 4);
                is("sort " + sort, x.people(2, 0, 1), KIND);
                is("sort " + sort + ", below 0", x.people(2, -1, 1), KIND);
            }
        }
        x.body(0);
        x.keep(3, 0);
        is("a BODY", x.people(3, 0, 1), KIND);
        is("count(0)", x.count(0), 0);
        is("two", x.people(0, 0, 6), 2);
        is("of(0, 0)", x.of(0, 0), 5);
        is("of(0, 1)", x.of(0, 1), 6);
        is("of(1, 0)", x.of(1, 0), 7);
        is("of(1, 1)", x.of(1, 1), 8);
        is("n of them", x.people(0, 1, 1), 1);
        is("of(2, 0)", x.of(2, 0), 6);
        is("of(2, 1)", x.of(2, 1), 7);
        shorts(x, 0, 1, 1, 24, 1, 2, 2);
        is("one FLAT is not as it may be", x.people(0, 0, 3), 1);
        shorts(x, 0, 0, 3, 9);
        is("the last two elements", x.people(0, 1, 6), 1);
        is("of(4, 0)", x.of(4, 0) * 10 + x.of(4, 1), 39);
        shorts(x, 0, 1, 4096);
        is("an OUT too great", x.people(0, 0, 1), 0);
        shorts(x, 0, 1, -1);
        is("an OUT below 0", x.people(0, 0, 1), 0);
        shorts(x, 0, -1, 1);
        is("a FLAT below 0", x.people(0, 0, 1), 0);
        shorts(x, 0, 1, 1, 2, 2, 3, 3);
        is("FULL within", x.people(0, 0, 3), 1);
        is("FULL", x.people(0, 0, 3), 0);
        is("count(0)", x.count(0), 6);
    }

    private void mend() {
        about = "promise 4";
        ThoughtsDrip x = new ThoughtsDrip();
        x.person(3, 7);
        x.person(4, 8);
        int[] numbers = {1, 1, 13, 12, 23, 0, 0};
        int[] first = {4, 8, 0, 0, 0, 0, 0};
        int[] most = {23, 4095, 9, 9999, 9, 9, 11};
        for (int what = 0; what < 7; what++) {
            int number = numbers[what];
            String call = "mend(" + number + ", " + what + ", ";
            is(call + "most)", x.mend(number, what, most[what]), first[what]);
            is(call + "too much)", x.mend(number, what, most[what] + 1), BAD);
            is(call + "-1)", x.mend(number, what, -1), BAD);
            is(call + "least)", x.mend(number, what, Integer.MIN_VALUE), BAD);
            is(call + "greatest)", x.mend(number, what, Integer.MAX_VALUE), BAD);
            is(call + "0)", x.mend(number, what, 0), most[what]);
            is("becomes 0", x.of(number, what), 0);
            is("a number below", x.mend(-1, what, 0), BAD);
            is("a number far off", x.mend(Integer.MAX_VALUE, what, 0), BAD);
            is("a number far below", x.mend(Integer.MIN_VALUE, what, 0), BAD);
        }
        is("no such one", x.mend(2, 0, 0), BAD);
        is("no such one", x.mend(2, 1, 0), BAD);
        is("no such MARK", x.mend(4, 2, 0), BAD);
        is("no such MARK", x.mend(14, 3, 0), BAD);
        is("no such one", x.mend(20, 2, 0), BAD);
        is("no such one", x.mend(23, 3, 0), BAD);
        is("no such FLAT", x.mend(24, 4, 0), BAD);
        is("IRON 1", x.mend(1, 5, 0), BAD);
        is("HOUR 1", x.mend(1, 6, 0), BAD);
        is("what 7", x.mend(0, 7, 0), BAD);
        is("what -1", x.mend(0, -1, 0), BAD);
        is("the other one stays", x.of(0, 0) * 10000 + x.of(0, 1), 30007);
    }

    private void of() {
        about = "promise 5";
        ThoughtsDrip x = new ThoughtsDrip();
        x.person(3, 7);
        x.person(4, 8);
        x.mend(10, 2, 1);
        x.mend(11, 2, 2);
        x.mend(13, 2, 4);
        x.mend(2, 3, 55);
        x.mend(9, 4, 6);
        x.mend(0, 5, 7);
        x.mend(0, 6, 8);
        is("FLAT", x.of(1, 0), 4);
        is("OUT", x.of(0, 1), 7);
        is("THINKS", x.of(10, 2) + 10 * x.of(11, 2) + 100 * x.of(12, 2) + 1000 * x.of(13, 2), 4021);
        is("WET", x.of(2, 3), 55);
        is("AWNING", x.of(9, 4), 6);
        is("IRON", x.of(0, 5), 7);
        is("HOUR", x.of(0, 6), 8);
        int[] wrong = {2, 2, 20, 14, 24, 1, 1};
        for (int what = 0; what < 7; what++) {
            is("of(" + wrong[what] + ", " + what + ")", x.of(wrong[what], what), BAD);
            for (int n : NUMBERS_WRONG) {
                is("of(" + n + ", " + what + ")", x.of(n, what), BAD);
            }
        }
        is("what 7", x.of(0, 7), BAD);
        is("what -1", x.of(0, -1), BAD);
    }

    private void feed() {
        about = "promise 6";
        ThoughtsDrip x = new ThoughtsDrip();
        is("feed(-1)", x.feed(-1), BAD);
        is("feed(256)", x.feed(256), BAD);
        is("feed(0)", x.feed(0), 1);
        is("feed(255)", x.feed(255), 2);
        for (int k = 3; k <= 120; k++) {
            is("feed(97)", x.feed(97), k);
        }
        is("feed(97), too many", x.feed(97), FULL);
        is("feed(256), too many", x.feed(256), BAD);
        is("count(2)", x.count(2), 120);
        is("law()", x.law(), -100);
        is("feed(97) again", x.feed(97), 1);
    }

    /** One thinks 9 of MARK 2 on FLOOR 6 of stack 1; AWNING 2, IRON 4. */
    private static ThoughtsDrip nine() {
        ThoughtsDrip x = new ThoughtsDrip();
        x.person(14, ALWAYS);
        x.mend(2, 2, 9);
        x.mend(14, 4, 2);
        x.mend(0, 5, 4);
        return x;
    }

    private void text(String text, int want) {
        ThoughtsDrip x = nine();
        is("law of " + text, tell(x, text), 1);
        is("what runs on by " + text, x.comes(14, 2, 1), want);
    }

    private void lawTexts() {
        about = "promise 7";
        text("a", 9);
        text("w", 2);
        text("i", 4);
        text("f", 6);
        text("m", 2);
        text("n", 1);
        text("10", 9);
        text("0-1", 0);
        text("0007", 7);
        text("7-2-1", 4);
        text("7-(2-1)", 6);
        text("2+3*2", 8);
        text("(2+1)*2", 6);
        text("9/2*2", 8);
        text("9%5*2", 8);
        text("-7/2+9", 6);
        text("9+-7%4", 6);
        text("5/0+3", 3);
        text("5%0+3", 3);
        text("1<2+5", 1);
        text("(1<2)+5", 6);
        text("(2<2)+(2>2)+(2=2)+3", 4);
        text("3*(5>4)", 3);
        text("7|0", 1);
        text("(0|0)+2", 2);
        text("7&2", 1);
        text("(7&0)+2", 2);
        text("1|0&0", 1);
        text("2=2&3", 1);
        text("!0+2", 3);
        text("!5+2", 2);
        text("!!5", 1);
        text("-!0+3", 2);
        text("--5", 5);
        text("!-5+4", 4);
        text("3*-2+8", 2);
        text("9999*9999*9999%10-1", 0);
        text("(9999*9999*9999>0)*2+(9999*9999*9999<0)*3", 3);
        text("(9999*9999*30>0)*2+(9999*9999*30<0)*3", 3);
        text("(9999*9999*21>0)*2+(9999*9999*21<0)*3", 2);
        text("0?5;3", 3);
        text("1?5;3", 5);
        text("2-2?5;-1?6;7", 6);
        text("0?5", 0);
        text("0?5;0?6", 0);
        text("4;5", 4);
        text("a>8?(w+1)*2;a", 6);
        text("a=9&m=2&n=1&w=2&i=4&f=6", 1);
        ThoughtsDrip x = nine();
        is("a law", tell(x, "3"), 1);
        is("THE TAPE is empty", x.count(2), 0);
        is("a fault", tell(x, "5+"), -102);
        is("THE TAPE is empty", x.count(2), 0);
        is("THE LAW stays", x.comes(14, 2, 1), 3);
        is("another law", tell(x, "5"), 1);
        is("THE LAW is the new one", x.comes(14, 2, 1), 5);
        is("no law told: 9 - 2 - 4 / 3", nine().comes(14, 2, 1), 6);
    }

    private void fault(String text, int place) {
        ThoughtsDrip x = new ThoughtsDrip();
        is("fault of " + text, tell(x, text), -100 - place);
        is("THE TAPE behind " + text, x.count(2), 0);
    }

    private void lawFaults() {
        about = "promise 7";
        fault("", 0);
        fault(" ", 0);
        fault("a ", 1);
        fault("A", 0);
        fault("x", 0);
        fault("12345", 4);
        fault("1+12345", 6);
        fault("aa", 1);
        fault("1a", 1);
        fault("a1", 1);
        fault("a+", 2);
        fault("a++a", 2);
        fault("a+-", 3);
        fault("+a", 0);
        fault("*", 0);
        fault("a<2<3", 3);
        fault("a=2>3", 3);
        fault("(a<2)<3<", 7);
        fault("a<2&a<3<4", 7);
        fault("a<", 2);
        fault("a;", 2);
        fault(";a", 0);
        fault("a;;a", 2);
        fault("a?", 2);
        fault("a?b", 2);
        fault("?a", 0);
        fault("a?1?2", 3);
        fault("a?1;a?2?", 7);
        fault("(a?1)", 2);
        fault("(a;1)", 2);
        fault("(a", 2);
        fault("(", 1);
        fault("()", 1);
        fault("a)", 1);
        fault("(a))", 3);
        fault("((a)", 4);
        fault("!", 1);
        fault("a!", 1);
        fault("a!=1", 1);
        fault("|", 0);
        fault("a||a", 2);
        fault("a&", 2);
        fault("\u00e4", 0);
        fault("a\u00ff", 1);
        ThoughtsDrip x = new ThoughtsDrip();
        is("120 bytes", tell(x, "a+".repeat(59) + "aa"), -219);
        is("120 bytes", tell(x, "a+".repeat(60)), -220);
        is("119 bytes", tell(x, "a+".repeat(59) + "a"), 1);
        is("120 bytes", tell(x, "a+".repeat(59) + "10"), 1);
        is("120 lines and ends", tell(x, "a;".repeat(60)), -220);
    }

    private void lawOpen() {
        about = "promise 7";
        ThoughtsDrip x = nine();
        is("6 of (", tell(x, "((((((a))))))"), 1);
        is("7 of (", tell(x, "(((((((a)))))))"), -106);
        is("6 of !", tell(x, "!!!!!!5"), 1);
        is("what runs on", x.comes(14, 2, 1), 1);
        is("7 of !", tell(x, "!!!!!!!5"), -106);
        is("6 of -", tell(x, "------5"), 1);
        is("what runs on", x.comes(14, 2, 1), 5);
        is("7 of -", tell(x, "-------5"), -106);
        is("6 of all", tell(x, "!-(!-(5))"), 1);
        is("7 of all", tell(x, "!-(!-((5)))"), -106);
        is("6 of all, closed and open again", tell(x, "!-(!-(5)+!(-5))"), 1);
        is("7 of all, closed and open again", tell(x, "!-(!-(5)+!(-(5)))"), -112);
        is("closed ones do not count", tell(x, "((((((1))))))+((((((1))))))"), 1);
        is("closed ! do not count", tell(x, "!!!!!!0+!!!!!!0+------4"), 1);
        is("what runs on", x.comes(14, 2, 1), 4);
        is("a ! ends with its O", tell(x, "!(1)*!(0)*!(0)*!(0)*!(0)*!(0)*!(0)*(2)"), 1);
        is("- between is not open", tell(x, "9-(1-(1-(1-(1-(1-(1-1))))))"), 1);
        is("what runs on: 9 - 1", x.comes(14, 2, 1), 8);
        is("within 6 others", tell(x, "((((((-1))))))"), -106);
        is("6 of ( behind ?", tell(x, "1?((((((7))))));((((((a))))))?((((((a))))))"), 1);
        is("what runs on", x.comes(14, 2, 1), 7);
        is("7 of ( behind ?", tell(x, "1?(((((((7)))))))"), -108);
        is("| behind ?", tell(x, "m?0|m;1"), 1);
        is("what runs on", x.comes(14, 2, 1), 1);
    }

    private void comes() {
        about = "promise 8";
        ThoughtsDrip x = two();
        x.mend(5, 4, 2);
        x.mend(0, 5, 3);
        is("to the top none", x.comes(7, 0, 0), 0);
        is("9 - 0 - 1", x.comes(7, 0, 1), 8);
        is("to FLOOR 6", x.comes(6, 0, 0), 8);
        is("to FLOOR 5", x.comes(5, 0, 0), 7);
        is("past the AWNING", x.comes(5, 0, 1), 4);
        is("to FLOOR 3", x.comes(3, 0, 0), 3);
        is("with what is thought there", x.comes(3, 0, 1), 4);
        is("from FLOOR 0", x.comes(0, 0, 1), 1);
        is("MARK 1 from FLOOR 3", x.comes(3, 1, 1), 3);
        is("another stack", x.comes(11, 0, 0), 0);
        is("at HOUR 11", x.comes(1106, 0, 0), 8);
        x.mend(0, 1, 1 << 4);
        is("when one is in", x.comes(306, 0, 0), 0);
        is("when one is out", x.comes(406, 0, 0), 8);
        is("held at 0", x.comes(403, 2, 1), 0);
        tell(x, "a+1");
        is("held at a", x.comes(406, 0, 0), 9);
        tell(x, "n*10+m");
        is("n and m", x.comes(403, 1, 1), 4);
        is("FLAT 24", x.comes(24, 0, 0), BAD);
        is("FLAT 99", x.comes(99, 0, 0), BAD);
        is("HOUR 12", x.comes(1200, 0, 0), BAD);
        is("MARK 4", x.comes(0, 4, 0), BAD);
        is("MARK -1", x.comes(0, -1, 0), BAD);
        is("what 2", x.comes(0, 0, 2), BAD);
        is("what -1", x.comes(0, 0, -1), BAD);
        for (int n : NUMBERS_WRONG) {
            is("comes(" + n + ", 0, 0)", x.comes(n, 0, 0), BAD);
        }
        is("hf -99", x.comes(-99, 0, 0), BAD);
    }

    private void porter() {
        about = "promise 9";
        ThoughtsDrip x = two();
        is("9 and 2", x.porter(0, 0), 11);
        is("MARK 1", x.porter(11, 1), 4);
        is("MARK 2", x.porter(0, 2), 0);
        x.person(23, 1 << 5);
        x.mend(20, 2, 6);
        is("of all STACKS", x.porter(5, 0), 17);
        is("at another HOUR", x.porter(4, 0), 11);
        x.mend(16, 4, 4);
        is("past the lowest AWNING", x.porter(5, 0), 13);
        is("HOUR 12", x.porter(12, 0), BAD);
        is("MARK 4", x.porter(0, 4), BAD);
        for (int n : NUMBERS_WRONG) {
            is("HOUR " + n, x.porter(n, 0), BAD);
            is("MARK " + n, x.porter(0, n), BAD);
        }
    }

    private void wet() {
        about = "promise 10";
        ThoughtsDrip x = two();
        is("now", x.wet(0, 10), 0);
        is("an hour", x.wet(1, 10), 9);
        is("48 hours", x.wet(48, 10), 432);
        is("not by his own", x.wet(48, 11), 0);
        is("the one on top", x.wet(48, 0), 0);
        x.mend(3, 4, 2);
        is("under an AWNING", x.wet(10, 10), 70);
        x.mend(10, 3, 9990);
        is("from what he is", x.wet(1, 10), 9997);
        is("at most 9999", x.wet(2, 10), 9999);
        is("at most 9999", x.wet(48, 10), 9999);
        x.mend(10, 3, 0);
        x.mend(0, 1, 0b100000000001);
        x.mend(0, 6, 10);
        is("HOUR 10", x.wet(1, 10), 0);
        is("HOUR 11", x.wet(2, 10), 7);
        is("HOUR 0", x.wet(3, 10), 14);
        is("HOUR 1", x.wet(4, 10), 14);
        x.mend(1, 1, 1);
        is("dry who is in", x.wet(12, 10), 7);
        x.mend(3, 4, 9);
        is("AWNING 9", x.wet(48, 10), 0);
        x.person(3, ALWAYS);
        x.mend(3, 4, 0);
        x.mend(0, 6, 0);
        is("each of them by all of it", x.wet(1, 10) * 100 + x.wet(1, 20), 909);
        is("n 49", x.wet(49, 10), BAD);
        is("n -1", x.wet(-1, 10), BAD);
        is("no such one", x.wet(0, 30), BAD);
        is("no such MARK", x.wet(0, 4), BAD);
        is("pm -1", x.wet(0, -1), BAD);
        is("pm -10", x.wet(0, -10), BAD);
    }

    private void most() {
        about = "promise 11";
        ThoughtsDrip x = two();
        is("dry", x.most(0, 1, 1), NOT);
        is("WET of all", x.most(0, 1, 0), 0);
        x.mend(2, 2, 9);
        x.mend(3, 2, 3);
        is("of like ones the least", x.most(1, 1, 1), 0);
        is("WET of all", x.most(2, 1, 0), 42);
        x.mend(13, 3, 7);
        is("with what he is now: 9 and 10", x.most(1, 1, 1), 3);
        is("18 and 13", x.most(2, 1, 1), 0);
        is("the one on top", x.most(48, 0, 1), NOT);
        x.mend(12, 3, 9999);
        is("9999", x.most(0, 1, 0), 10006);
        is("MARK 2", x.most(0, 1, 1), 2);
        is("n 49", x.most(49, 0, 0), BAD);
        is("n -1", x.most(-1, 0, 0), BAD);
        ThoughtsDrip y = two();
        y.mend(3, 3, 1);
        is("but 1, the last MARK", y.most(48, 0, 1), 3);
        is("no such one", x.most(0, 2, 0), BAD);
        is("one -1", x.most(0, -1, 0), BAD);
        is("what 2", x.most(0, 0, 2), BAD);
        is("what -1", x.most(0, 0, -1), BAD);
    }

    private void caught() {
        about = "promise 12";
        ThoughtsDrip x = two();
        is("now", x.caught(0, 0), 0);
        is("an hour", x.caught(1, 0), 11);
        is("48 hours", x.caught(48, 0), 528);
        is("MARK 1", x.caught(3, 1), 12);
        is("MARK 3", x.caught(48, 3), 0);
        x.mend(0, 1, 1);
        x.mend(0, 6, 11);
        is("from HOUR 11", x.caught(2, 0), 13);
        is("n 49", x.caught(49, 0), BAD);
        is("n -1", x.caught(-1, 0), BAD);
        is("MARK 4", x.caught(0, 4), BAD);
        is("MARK -1", x.caught(0, -1), BAD);
    }

    private void first() {
        about = "promise 13";
        ThoughtsDrip x = two();
        is("at once", x.first(1), 1);
        is("never", x.first(0), NOT);
        x.mend(0, 1, 1 << 11);
        is("behind HOUR 11", x.first(1), 12);
        x.mend(0, 6, 11);
        is("from HOUR 11", x.first(1), 1);
        x.mend(0, 6, 1);
        x.mend(0, 1, 1);
        is("round the clock", x.first(1), 12);
        x.mend(1, 1, 2);
        is("never out together", x.first(1), NOT);
        x.mend(1, 1, ALWAYS);
        x.mend(10, 3, 9999);
        is("as WET as may be", x.first(1), NOT);
        x.mend(1, 2, 1);
        is("of another MARK", x.first(1), 12);
        is("no such one", x.first(2), BAD);
        is("one -1", x.first(-1), BAD);
    }

    private void from() {
        about = "promise 14";
        ThoughtsDrip x = two();
        x.person(0, 1);
        x.person(15, ALWAYS);
        x.mend(30, 2, 9);
        x.person(5, 2);
        x.mend(43, 2, 2);
        is("from above", x.from(1, 0), 0b10001);
        is("not who is in then", x.from(2, 0), 0b00011);
        is("the top", x.from(0, 0), 0);
        is("onto all below", x.from(0, 1), 0b10110);
        is("onto those below", x.from(1, 1), 0b00100);
        is("another stack", x.from(3, 1), 0);
        x.mend(4, 4, 9);
        is("past an AWNING but 2", x.from(1, 0), 0);
        x.mend(10, 3, 9999);
        x.mend(4, 4, 0);
        is("as WET as may be of MARK 0", x.from(1, 0), 0b10000);
        is("so he reaches him not", x.from(0, 1), 0b10100);
        x.mend(0, 2, 1);
        x.mend(10, 3, 9998);
        is("1 is enough", x.from(1, 0), 0b10001);
        x.mend(10, 3, 9999);
        tell(x, "n>1?a;0");
        is("alone nobody runs on", x.from(0, 1), 0);
        is("no such one", x.from(5, 0), BAD);
        is("one -1", x.from(-1, 0), BAD);
        is("what 2", x.from(0, 2), BAD);
        is("what -1", x.from(0, -1), BAD);
    }

    private void dry() {
        about = "promise 15";
        ThoughtsDrip x = two();
        is("dry anyway", x.dry(0, 0), 0);
        is("no FLOORS", x.dry(0, 1), 0);
        is("one AWNING", x.dry(1, 0), 1);
        is("his own, the least", x.dry(1, 1), 0b1000);
        x.person(6, ALWAYS);
        x.mend(20, 2, 9);
        x.mend(0, 2, 9);
        is("18 past two", x.dry(1, 0), 2);
        is("his own and the next", x.dry(1, 1), 0b11000);
        is("9 past one", x.dry(2, 1), 0b1000000);
        tell(x, "a");
        is("a law that no AWNING holds", x.dry(1, 0), NOT);
        is("a law that no AWNING holds", x.dry(1, 1), NOT);
        is("but his own", x.dry(2, 0), 1);
        tell(x, "w=9?0;a");
        is("a law that any AWNING holds", x.dry(1, 1), 0b10000);
        tell(x, "w=9?a;0");
        is("a law that AWNINGS open", x.dry(1, 1), 0);
        x.mend(10, 3, 9999);
        tell(x, "a");
        is("as WET as may be", x.dry(1, 0), 0);
        x.mend(10, 3, 9998);
        is("one less", x.dry(1, 0), NOT);
        x.moves(1, 11);
        is("of his STACK", x.dry(1, 0), 0);
        x.moves(0, 15);
        is("FLOORS of stack 1", x.dry(1, 1), 0b1000);
        ThoughtsDrip y = two();
        y.moves(1, 0);
        y.person(7, ALWAYS);
        tell(y, "a-(w=9)");
        y.mend(20, 2, 5);
        is("14: his own and five", y.dry(1, 1), 0b00111111);
        y.mend(20, 2, 6);
        is("15: seven", y.dry(1, 0), 7);
        is("which seven", y.dry(1, 1), 0b01111111);
        y.mend(20, 2, 7);
        is("16: all", y.dry(1, 0), 8);
        is("all", y.dry(1, 1), 0b11111111);
        y.mend(20, 2, 8);
        is("17: not even all", y.dry(1, 0), NOT);
        is("17: not even all", y.dry(1, 1), NOT);
        y.mend(20, 2, 0);
        y.mend(0, 2, 0);
        y.mend(3, 2, 9);
        is("MARK 3 alone", y.dry(1, 1), 1);
        is("no such one", x.dry(3, 0), BAD);
        is("one -1", x.dry(-1, 0), BAD);
        is("what 2", x.dry(0, 2), BAD);
        is("what -1", x.dry(0, -1), BAD);
    }

    private void change() {
        about = "promise 16";
        ThoughtsDrip x = two();
        x.person(5, 3);
        is("least", x.change(10, 0, -1), 0);
        is("first dealing in which 1 keeps dry: 0 stays, 1 by 2, 2 by 1 is wet still; 0 by 1, 1 by 0", x.change(10, 0, 0), 3);
        is("1 by 0", x.change(10, 0, 1), 7);
        is("2 stays", x.change(10, 0, 2), 5);
        is("most: all stay", x.change(10, 1, -1), 108);
        is("most: 0 stays", x.change(10, 1, 0), 7);
        is("most: 1 stays", x.change(10, 1, 1), 3);
        is("0 of MARK 1, most", x.change(1, 1, -1), 48);
        is("0 of MARK 1: the first is 0 by 1, 1 by 0", x.change(1, 1, 0) * 100 + x.change(1, 1, 1), 307);
        is("0 of MARK 2: all stay", x.change(2, 1, 0), 7);
        x.mend(1, 3, 9990);
        is("at most 9999", x.change(1, 1, -1), 9);
        is("no such one", x.change(30, 0, -1), BAD);
        is("no such MARK", x.change(14, 0, -1), BAD);
        is("pm -1", x.change(-1, 0, -1), BAD);
        is("way 2", x.change(10, 2, -1), BAD);
        is("way -1", x.change(10, -1, -1), BAD);
        is("other -2", x.change(10, 0, -2), BAD);
        is("other 3", x.change(10, 0, 3), BAD);
        is("nobody has moved", x.of(0, 0) + x.of(1, 0) * 100 + x.of(2, 0) * 10000, 50307);
        ThoughtsDrip y = two();
        y.mend(0, 5, 9);
        is("past IRON 9, from FLOOR 7 to 3: 9 - 4 * 3", y.change(10, 1, -1), 0);
        is("dry past IRON 9", y.dry(1, 0), 0);
        y.mend(0, 5, 6);
        is("past IRON 6: 9 - 4 * 2, for 12 hours", y.change(10, 1, -1), 12);
        is("one AWNING past IRON 6", y.dry(1, 0), 1);
        y = new ThoughtsDrip();
        for (int p = 0; p < 6; p++) {
            y.person(p, ALWAYS);
            y.mend(10 * p, 2, p + 1);
        }
        is("six in a stack: 2 + .. + 6 by 12", y.change(0, 1, -1), 240);
        is("0 at the foot", y.change(0, 1, 0), 0);
        is("the others as they are", y.change(0, 1, 5), 5);
        is("5 at the foot: 1 + .. + 5 by 12", y.change(50, 1, -1), 180);
        is("5 at the foot", y.change(50, 1, 5), 0);
        is("0 takes the next one then", y.change(50, 1, 0), 1);
    }

    private void who() {
        about = "promise 17";
        ThoughtsDrip x = new ThoughtsDrip();
        basin(x, 0, 0, 0, 0, 0);
        is("nobody", x.who(0, 0, 0), 1);
        x.person(7, 0);
        x.person(15, 0);
        x.person(3, 0);
        x.mend(0, 2, 4);
        x.mend(10, 2, 4);
        x.mend(20, 2, 4);
        x.mend(21, 2, 1);
        basin(x, 0, 8, 1, 0, 0);
        is("0 and 2, or 1 and 2", x.who(0, 0, 0), 2);
        is("the least", x.who(0, 0, 1), 0b101);
        is("2 is certain", x.who(0, 0, 2), 0b100);
        basin(x, 0, 4, 0, 0, 0);
        is("0 or 1", x.who(0, 11, 0), 2);
        is("the least", x.who(0, 11, 1), 1);
        is("nobody is certain", x.who(0, 11, 2), 0);
        basin(x, 0, 12, 1, 0, 0);
        is("all", x.who(0, 11, 2), 0b111);
        basin(x, 0, 12, 1, 0, 1);
        is("none", x.who(0, 0, 0), 0);
        is("none", x.who(0, 0, 1), NOT);
        is("none", x.who(0, 0, 2), 0);
        x.person(20, 0);
        basin(x, 0, 12, 1, 0, 0);
        is("one who thinks nothing, or not", x.who(0, 0, 0), 2);
        is("shelf -1", x.who(-1, 0, 0), BAD);
        is("shelf 6", x.who(6, 0, 0), BAD);
        is("HOUR 12", x.who(0, 12, 0), BAD);
        is("HOUR -1", x.who(0, -1, 0), BAD);
        is("what 3", x.who(0, 0, 3), BAD);
        is("what -1", x.who(0, 0, -1), BAD);
        is("HOUR 12, nothing there", x.who(1, 12, 0), BAD);
        is("nothing there", x.who(1, 0, 0), NONE);
        x.row(1, 2, 4);
        is("a ROW of ints", x.who(1, 0, 0), KIND);
        x.row(1, 4, 4);
        is("a ROW of booleans", x.who(1, 0, 0), KIND);
        x.body(2);
        x.keep(1, 0);
        is("a BODY", x.who(1, 0, 0), KIND);
        x.row(1, 0, 5);
        is("five bytes", x.who(1, 0, 0), BAD);
        x.row(1, 0, 0);
        is("no bytes", x.who(1, 0, 0), BAD);
    }

    private void thought() {
        about = "promise 18";
        ThoughtsDrip x = two();
        basin(x, 0, 11, 4, 0, 0);
        is("as it is", x.thought(0, 0, 0, 0), 1);
        is("9", x.thought(0, 0, 0, 1), 9);
        is("2", x.thought(0, 0, 10, 1), 2);
        basin(x, 0, 5, 4, 0, 0);
        is("3 and 2", x.thought(0, 0, 0, 1), 3);
        is("9 is too much", x.thought(0, 0, 10, 0), 0);
        is("9 is too much", x.thought(0, 0, 10, 1), NOT);
        basin(x, 0, 2, 4, 0, 0);
        is("0 and 2", x.thought(0, 0, 0, 1), 0);
        basin(x, 0, 2, 5, 0, 0);
        is("not of the other MARKS", x.thought(0, 0, 0, 0), 0);
        basin(x, 0, 11, 4, 0, 0);
        x.mend(7, 4, 5);
        basin(x, 0, 2, 4, 0, 0);
        is("0 .. 5 keep behind the AWNING", x.thought(0, 3, 0, 0), 6);
        is("the least", x.thought(0, 3, 0, 1), 0);
        x.mend(0, 1, 1);
        is("all, when he is in", x.thought(0, 3, 0, 0), 10);
        is("at an HOUR when he is out", x.thought(0, 0, 0, 0), 6);
        is("THINKS stays", x.of(0, 2), 9);
        is("no such one", x.thought(0, 0, 20, 0), BAD);
        is("no such MARK", x.thought(0, 0, 4, 0), BAD);
        is("pm -1", x.thought(0, 0, -1, 0), BAD);
        is("shelf 6", x.thought(6, 0, 0, 0), BAD);
        is("shelf -1", x.thought(-1, 0, 0, 0), BAD);
        is("HOUR 12", x.thought(0, 12, 0, 0), BAD);
        is("HOUR -1", x.thought(0, -1, 0, 0), BAD);
        is("what 2", x.thought(0, 0, 0, 2), BAD);
        is("what -1", x.thought(0, 0, 0, -1), BAD);
        is("nothing there", x.thought(1, 0, 0, 0), NONE);
        x.row(1, 1, 4);
        is("a ROW of shorts", x.thought(1, 0, 0, 0), KIND);
        x.body(2);
        x.keep(1, 0);
        is("a BODY", x.thought(1, 0, 0, 0), KIND);
        x.row(1, 0, 3);
        is("three bytes", x.thought(1, 0, 0, 0), BAD);
    }

    private void rent() {
        about = "promise 19";
        ThoughtsDrip x = two();
        is("1 by 1, 1 by 109: 109 of 110 parts", x.rent(0, 110), 109);
        is("1 of 110 parts", x.rent(1, 110), 1);
        is("cut", x.rent(1, 109), 0);
        is("cut", x.rent(0, 109), 108);
        is("999", x.rent(0, 999), 989);
        is("nothing", x.rent(0, 0), 0);
        x.mend(2, 2, 1);
        is("of all MARKS: 1 by 121", x.rent(1, 122), 1);
        x.mend(1, 1, 0);
        is("though he is in", x.rent(1, 122), 1);
        x.person(3, 0);
        is("three: 121 and 1 and 1", x.rent(0, 123), 121);
        is("three: 1 of 123", x.rent(2, 123), 1);
        ThoughtsDrip alone = new ThoughtsDrip();
        alone.person(3, ALWAYS);
        is("alone", alone.rent(0, 777), 777);
        is("v 1000", x.rent(0, 1000), BAD);
        is("v -1", x.rent(0, -1), BAD);
        is("no such one", x.rent(3, 1), BAD);
        is("one -1", x.rent(-1, 1), BAD);
        ThoughtsDrip y = new ThoughtsDrip();
        for (int p = 0; p < 6; p++) {
            y.person(7 - p, ALWAYS);
            for (int mark = 0; mark < 4; mark++) {
                y.mend(10 * p + mark, 2, 9);
            }
        }
        // 1 by 1, 433, 865, 1297, 1729, 2161: together 1.005278..
        is("six in a stack", y.rent(0, 999), 993);
        is("the next one", y.rent(1, 999), 2);
        is("the third one", y.rent(2, 999), 1);
        is("the fourth one", y.rent(3, 999), 0);
    }

    private void swap() {
        about = "promise 20";
        ThoughtsDrip x = two();
        is("he would be wet for it", x.swap(1), NOT);
        x.mend(10, 2, 0);
        x.mend(11, 2, 0);
        is("then 0 would be dripped on by none", x.swap(1), 0);
        is("and 0 with 1", x.swap(0), 1);
        x.person(2, 0);
        is("the least", x.swap(1), 0);
        x.person(15, ALWAYS);
        x.moves(0, 8);
        is("0 below 3: nothing is thought there", x.swap(0), NOT);
        x.mend(33, 2, 1);
        is("1 would be WETTER, 2 is in", x.swap(0), 2);
        x.mend(2, 1, 1);
        is("2 would be WETTER, 3 under 0, too", x.swap(0), NOT);
        is("no such one", x.swap(4), BAD);
        is("one -1", x.swap(-1), BAD);
        ThoughtsDrip y = new ThoughtsDrip();
        y.person(3, ALWAYS);
        is("nobody else", y.swap(0), NOT);
        y.person(3, ALWAYS);
        is("the same FLAT", y.swap(0), NOT);
        y.person(7, ALWAYS);
        y.mend(20, 2, 9);
        is("2 on top thinks, 0 does not", y.swap(2), 0);
        y.mend(0, 2, 9);
        is("0 drips on 2 then", y.swap(0), NOT);
        y.mend(1, 1, 0);
        is("0 with 2: as wet as one another", y.swap(1), NOT);
        y = new ThoughtsDrip();
        y.person(3, ALWAYS);
        y.person(7, ALWAYS);
        y.mend(13, 2, 1);
        is("for MARK 3 alone", y.swap(0), 1);
        y.mend(3, 2, 1);
        is("1 would be WETTER of MARK 3", y.swap(0), NOT);
        is("0 would be WETTER of MARK 3", y.swap(1), NOT);
        y.mend(3, 2, 0);
        is("both ways", y.swap(1), 0);
    }

    private void odds() {
        about = "promise 21";
        ThoughtsDrip x = two();
        x.mend(1, 1, 0);
        is("0 is out or not", x.odds(10, 0, 0), 1);
        is("of 2", x.odds(10, 0, 1), 2);
        is("the top", x.odds(0, 0, 0), 0);
        is("0 by 1", x.odds(0, 0, 1), 1);
        x.person(5, 0);
        x.mend(20, 2, 3);
        is("0 or 2: 3", x.odds(10, 11, 0), 3);
        is("of 4", x.odds(10, 11, 1), 4);
        x.mend(4, 4, 9);
        is("both: 1", x.odds(10, 11, 0), 1);
        is("of 4", x.odds(10, 11, 1), 4);
        x.person(23, 0);
        is("lowest terms", x.odds(10, 11, 1), 4);
        tell(x, "n>0?a;0");
        is("nobody is out between", x.odds(10, 0, 0), 0);
        for (int part = 0; part < 2; part++) {
            is("no such one", x.odds(40, 0, part), Long.MIN_VALUE);
            is("no such MARK", x.odds(4, 0, part), Long.MIN_VALUE);
            is("pm -1", x.odds(-1, 0, part), Long.MIN_VALUE);
            is("HOUR 12", x.odds(0, 12, part), Long.MIN_VALUE);
            is("HOUR -1", x.odds(0, -1, part), Long.MIN_VALUE);
        }
        is("part 2", x.odds(0, 0, 2), Long.MIN_VALUE);
        is("part -1", x.odds(0, 0, -1), Long.MIN_VALUE);
        ThoughtsDrip y = new ThoughtsDrip();
        y.person(7, 0);
        y.mend(0, 2, 9);
        y.person(6, 0);
        y.person(3, 0);
        tell(y, "f=6&n=0?0;a");
        is("1 must be out, too", y.odds(20, 0, 1), 4);
        tell(y, "f=3&n=0?0;a");
        y.person(1, 0);
        is("one himself is out: alone with 0 half", y.odds(20, 0, 1), 2);
        is("2 ought to be out for it", y.odds(30, 0, 1), 4);
    }

    private void mean() {
        about = "promise 22";
        ThoughtsDrip x = two();
        x.mend(1, 1, 0);
        is("9", x.mean(10, 0, 0), 9);
        is("by 2", x.mean(10, 0, 1), 2);
        x.person(5, 0);
        x.mend(20, 2, 3);
        is("0, 9, 3, 12: 24 by 4", x.mean(10, 0, 0), 6);
        is("by 1", x.mean(10, 0, 1), 1);
        x.mend(20, 2, 4);
        is("26 by 4", x.mean(10, 0, 0), 13);
        is("by 2", x.mean(10, 0, 1), 2);
        is("none", x.mean(13, 0, 0), 0);
        is("by 1", x.mean(13, 0, 1), 1);
        is("no such one", x.mean(30, 0, 0), Long.MIN_VALUE);
        is("no such MARK", x.mean(4, 0, 0), Long.MIN_VALUE);
        is("pm -1", x.mean(-1, 0, 0), Long.MIN_VALUE);
        is("HOUR 12", x.mean(0, 12, 0), Long.MIN_VALUE);
        is("HOUR -1", x.mean(0, -1, 0), Long.MIN_VALUE);
        is("part 2", x.mean(0, 0, 2), Long.MIN_VALUE);
        is("part -1", x.mean(0, 0, -1), Long.MIN_VALUE);
    }

    private void byTurns() {
        about = "promise 23";
        ThoughtsDrip x = two();
        is("one hour: 9", x.byTurns(10, 1, 0), 9);
        is("then the other one stays in", x.byTurns(10, 2, 0), 9);
        is("six hours", x.byTurns(10, 6, 0), 27);
        is("goes OUT first", x.byTurns(10, 6, 1), 1);
        is("0 is never wet", x.byTurns(1, 6, 0), 0);
        is("of like ones 0", x.byTurns(1, 6, 1), 0);
        x.mend(0, 1, 0);
        is("the other one is in as told, out he'd drip", x.byTurns(10, 6, 0), 0);
        is("of like ones 0", x.byTurns(10, 6, 1), 0);
        x.mend(0, 1, ALWAYS);
        x.mend(10, 3, 9990);
        is("at most 9999", x.byTurns(10, 6, 0), 9);
        is("9 in hour 2 is as good", x.byTurns(10, 3, 1), 0);
        is("in one hour it counts", x.byTurns(10, 1, 1), 1);
        x.mend(10, 3, 0);
        x.mend(0, 2, 1);
        x.mend(1, 2, 2);
        is("MARK 1 is most thought", x.byTurns(10, 3, 0), 4);
        x.mend(3, 2, 3);
        is("MARK 3 is most thought", x.byTurns(10, 3, 0), 6);
        x.mend(2, 2, 9);
        x.mend(0, 2, 8);
        is("MARK 2 is most thought", x.byTurns(10, 3, 0), 18);
        x.mend(0, 2, 9);
        x.mend(10, 3, 9999);
        is("of like ones MARK 0", x.byTurns(10, 3, 0), 0);
        x.mend(10, 3, 0);
        x.mend(0, 6, 11);
        x.mend(0, 1, 1);
        is("from HOUR 11: in, in by choice, in", x.byTurns(10, 3, 0), 0);
        x.mend(0, 6, 0);
        is("from HOUR 0", x.byTurns(10, 3, 0), 9);
        tell(x, "f=5&n?1;a");
        x.person(5, ALWAYS);
        x.mend(0, 1, ALWAYS);
        is("out he holds some of it back", x.byTurns(12, 1, 0), 1);
        is("so he goes", x.byTurns(12, 2, 0), 2);
        x.mend(2, 1, 0);
        is("in as told he holds nothing back", x.byTurns(12, 1, 0), 9);
        is("asked, he goes", x.byTurns(12, 2, 0), 10);
        is("ab 11", x.byTurns(11, 1, 0), BAD);
        is("ab 3", x.byTurns(3, 1, 0), BAD);
        is("ab 30", x.byTurns(30, 1, 0), BAD);
        is("ab -1", x.byTurns(-1, 1, 0), BAD);
        is("ab -10", x.byTurns(-10, 1, 0), BAD);
        is("ab 110", x.byTurns(110, 1, 0), BAD);
        is("n 0", x.byTurns(10, 0, 0), BAD);
        is("n 7", x.byTurns(10, 7, 0), BAD);
        is("what 2", x.byTurns(10, 1, 2), BAD);
        is("what -1", x.byTurns(10, 1, -1), BAD);
    }

    private void drawn() {
        about = "promise 24";
        // From SEED 0: z is 12345, -740551042, -1732574121, 334311848, ..: out by bit 8: 0, 0, 1, 0.
        ThoughtsDrip x = two();
        int z = 0;
        int wetter = 0;
        int porter = 0;
        for (int night = 0; night < 3; night++) {
            for (int hour = 0; hour < 5; hour++) {
                z = z * 1103515245 + 12345;
                boolean zero = (z >> 8 & 1) == 1;
                z = z * 1103515245 + 12345;
                boolean one = (z >> 8 & 1) == 1;
                wetter += zero && one ? 9 : 0;
                porter += (zero ? 9 : 0) + (one ? 6 : 0);
            }
        }
        is("WETTER", x.drawn(0, 305, 0), wetter);
        is("THE PORTER", x.drawn(0, 305, 1), porter);
        x.mend(0, 1, 0);
        is("whatever OUT is", x.drawn(0, 305, 1), porter);
        x.mend(10, 3, 9999);
        is("none can be WETTER", x.drawn(0, 305, 0), 0);
        x.mend(10, 3, 9998);
        int nights = 0;
        for (int n = 1; n <= 30; n++) {
            int more = x.drawn(77, 100 * n + 24, 0);
            nights += more == n ? 1 : 0;
        }
        is("each night from now", nights, 30);
        is("a SEED below 0", x.drawn(-5, 101, 0) >= 0 ? 1 : 0, 1);
        is("n 0", x.drawn(1, 24, 0), BAD);
        is("n 31", x.drawn(1, 3101, 0), BAD);
        is("m 0", x.drawn(1, 3000, 0), BAD);
        is("m 25", x.drawn(1, 125, 0), BAD);
        is("nm -101", x.drawn(1, -101, 0), BAD);
        is("what 2", x.drawn(1, 101, 2), BAD);
        is("what -1", x.drawn(1, 101, -1), BAD);
        is("HOUR stays", x.of(0, 6), 0);
        is("WET stays", x.of(10, 3), 9998);
        drawnAmongSix();
    }

    /** Each thinks 1 of each MARK, the last one sits on top: who is out gets as much as others are out above. */
    private void drawnAmongSix() {
        ThoughtsDrip x = new ThoughtsDrip();
        for (int p = 0; p < 6; p++) {
            x.person(8 + p, p);
            for (int mark = 0; mark < 4; mark++) {
                x.mend(10 * p + mark, 2, 1);
            }
        }
        int z = -123456789;
        int wetter = 0;
        int porter = 0;
        for (int hour = 0; hour < 30 * 24; hour++) {
            int out = 0;
            for (int p = 0; p < 6; p++) {
                z = z * 1103515245 + 12345;
                out += z >> 8 & 1;
            }
            porter += 4 * out;
            wetter += 4 * (out * (out - 1) / 2);
        }
        is("six, 30 nights of 24 hours", x.drawn(-123456789, 3024, 0), wetter);
        is("THE PORTER", x.drawn(-123456789, 3024, 1), porter);
        int one = 0;
        z = 5;
        for (int p = 0; p < 6; p++) {
            z = z * 1103515245 + 12345;
            one += z >> 8 & 1;
        }
        is("a night of an hour", x.drawn(5, 101, 1), 4 * one);
    }

    private void hour() {
        about = "promise 25";
        ThoughtsDrip x = two();
        x.mend(0, 6, 10);
        x.mend(0, 1, 1 << 11);
        is("HOUR 11", x.hour(), 11);
        is("nothing came", x.of(10, 3), 0);
        is("behind 11: 0", x.hour(), 0);
        is("9 came", x.of(10, 3), 9);
        is("not MARK 1", x.of(11, 3), 0);
        is("what was thought at 10 and 11", x.led(3), 6 + 15);
        x.mend(0, 1, ALWAYS);
        x.mend(10, 3, 9995);
        is("HOUR 1", x.hour(), 1);
        is("9999 at most", x.of(10, 3), 9999);
        is("three hours", x.led(0), 3);
        ThoughtsDrip y = new ThoughtsDrip();
        for (int p = 0; p < 6; p++) {
            y.person(16 + p, ALWAYS);
            for (int mark = 0; mark < 4; mark++) {
                y.mend(10 * p + mark, 2, p + mark);
            }
        }
        y.hour();
        is("the lowest: 1 .. 5", y.of(0, 3), 15);
        is("the lowest of MARK 3: 4 .. 8", y.of(3, 3), 30);
        is("the next: 2 .. 5", y.of(10, 3), 14);
        is("the last but one", y.of(43, 3), 8);
        is("the top", y.of(50, 3) + y.of(53, 3), 0);
        is("all: 15, 21, 27, 33", y.led(3), 96);
    }

    private void moves() {
        about = "promise 26";
        ThoughtsDrip x = two();
        is("till then", x.moves(0, 15), 7);
        is("FLAT", x.of(0, 0), 15);
        is("to where he is", x.moves(0, 15), 15);
        is("moves", x.led(1), 2);
        is("no change", x.count(3), 3);
        is("dry", x.wet(48, 10), 0);
        is("FLAT 24", x.moves(0, 24), BAD);
        is("FLAT -1", x.moves(0, -1), BAD);
        is("no such one", x.moves(2, 0), BAD);
        is("one -1", x.moves(-1, 0), BAD);
        is("moves", x.led(1), 2);
    }

    private void awning() {
        about = "promise 27";
        ThoughtsDrip x = new ThoughtsDrip();
        for (int k = 1; k <= 9; k++) {
            is("one more", x.awning(23), k);
        }
        is("9 at most", x.awning(23), 9);
        is("AWNING", x.of(23, 4), 9);
        is("of another FLAT", x.of(22, 4), 0);
        is("no change", x.count(3), 0);
        is("FLAT 24", x.awning(24), BAD);
        is("FLAT -1", x.awning(-1), BAD);
        is("awnings", x.led(2), 10);
    }

    private void wipe() {
        about = "promise 28";
        ThoughtsDrip x = two();
        x.mend(10, 3, 5);
        x.mend(13, 3, 700);
        x.mend(3, 3, 9999);
        is("of all MARKS", x.wipe(1), 705);
        is("dry", x.of(10, 3) + x.of(13, 3), 0);
        is("the other one is not", x.of(3, 3), 9999);
        is("dry already", x.wipe(1), 0);
        is("the other one", x.wipe(0), 9999);
        is("wiped off", x.led(4), 10704);
        ThoughtsDrip y = two();
        y.mend(10, 3, 5);
        is("0 is dry", y.wipe(0), 0);
        is("1 stays WET", y.of(10, 3), 5);
        is("no such one", x.wipe(2), BAD);
        is("one -1", x.wipe(-1), BAD);
    }

    private void led() {
        about = "promise 29";
        ThoughtsDrip x = two();
        x.hour();
        x.hour();
        x.moves(1, 2);
        x.awning(0);
        x.awning(0);
        x.awning(1);
        x.wipe(1);
        is("hours", x.led(0), 2);
        is("moves", x.led(1), 1);
        is("awnings", x.led(2), 3);
        is("THE PORTER: 11 and 4, twice", x.led(3), 30);
        is("wiped off", x.led(4), 18);
        is("what 5", x.led(5), BAD);
        is("what -1", x.led(-1), BAD);
        x.mend(0, 6, 11);
        is("HOUR told is no hour led", x.led(0), 2);
    }

    private void image() {
        about = "promises 30, 31";
        ThoughtsDrip x = two();
        is("none", x.back(), STATE);
        x.hour();
        x.awning(4);
        is("hours", x.image(), 1);
        x.hour();
        x.moves(1, 2);
        x.wipe(1);
        x.awning(4);
        x.awning(5);
        x.mend(0, 2, 1);
        x.mend(0, 5, 6);
        x.mend(1, 1, 5);
        x.person(20, 6);
        x.mend(21, 3, 40);
        is("hours", x.back(), 1);
        is("FLAT", x.of(1, 0), 3);
        is("WET", x.of(10, 3), 9);
        is("HOUR", x.of(0, 6), 1);
        is("AWNING", x.of(4, 4) * 10 + x.of(5, 4), 10);
        is("LED", x.led(0) * 10000 + x.led(1) * 1000 + x.led(2) * 100 + x.led(3), 10115);
        is("LED wiped off", x.led(4), 0);
        is("THINKS stays", x.of(0, 2), 1);
        is("OUT stays", x.of(1, 1), 5);
        is("IRON stays", x.of(0, 5), 6);
        is("who came since", x.of(2, 0) * 100 + x.of(21, 3), 2040);
        is("changes stay", x.count(3), 7);
        x.mend(13, 3, 80);
        x.hour();
        is("again", x.back(), 1);
        is("WET of all MARKS", x.of(13, 3), 0);
        is("HOUR", x.of(0, 6), 1);
        x.mend(0, 6, 7);
        x.hour();
        is("another one", x.image(), 2);
        x.moves(2, 0);
        is("laid back", x.back(), 2);
        is("FLAT of 2 now kept", x.of(2, 0), 20);
        is("HOUR", x.of(0, 6), 8);
    }

    private void undoRedo() {
        about = "promises 32, 33";
        ThoughtsDrip x = new ThoughtsDrip();
        is("none", x.undo(), STATE);
        is("none", x.redo(), STATE);
        x.person(3, 7);
        is("people are no change", x.undo(), STATE);
        int[] values = {20, 8, 5, 600, 4, 3, 2};
        for (int what = 0; what < 7; what++) {
            x.mend(0, what, values[what]);
        }
        is("telling the same", x.mend(0, 6, 2), 2);
        is("is none", x.count(3), 7);
        int[] first = {3, 7, 0, 0, 0, 0, 0};
        for (int what = 6; what >= 0; what--) {
            is("undo", x.undo(), what);
            is("of(0, " + what + ")", x.of(0, what), first[what]);
        }
        is("none is left", x.undo(), STATE);
        is("telling the same", x.mend(0, 4, 0), 0);
        for (int what = 0; what < 7; what++) {
            is("redo", x.redo(), 6 - what);
            is("of(0, " + what + ")", x.of(0, what), values[what]);
        }
        is("none is left", x.redo(), STATE);
        x.undo();
        x.undo();
        is("deeds come between", x.awning(5), 1);
        is("and one more", x.redo(), 1);
        is("IRON", x.of(0, 5), 3);
        x.mend(0, 4, 9);
        is("another came behind", x.redo(), STATE);
        is("undo that", x.undo(), 6);
        is("AWNING", x.of(0, 4), 4);
        x.awning(0);
        x.undo();
        is("undo IRON, then AWNING to what it was", x.undo(), 4);
        is("AWNING", x.of(0, 4), 0);
        is("BAD ones change nothing", x.mend(0, 4, 10), BAD);
        is("redo", x.redo(), 2);
        is("AWNING", x.of(0, 4), 4);
    }

    private void undoForty() {
        about = "promises 32, 33";
        ThoughtsDrip x = new ThoughtsDrip();
        for (int k = 0; k < 45; k++) {
            x.mend(0, 5, k % 2 == 0 ? 1 : k % 9 + 2 > 9 ? 9 : 2);
        }
        is("40 are kept", x.count(3), 40);
        ThoughtsDrip y = new ThoughtsDrip();
        for (int k = 0; k < 42; k++) {
            y.mend(k % 24, 4, k / 24 + 1);
        }
        for (int k = 39; k >= 0; k--) {
            is("undo", y.undo(), k);
        }
        is("no more", y.undo(), STATE);
        is("the two oldest stand", y.of(0, 4) * 100 + y.of(1, 4) * 10 + y.of(2, 4), 110);
        for (int k = 39; k >= 0; k--) {
            is("redo", y.redo(), k);
        }
        is("as they were", y.of(17, 4) * 10 + y.of(18, 4), 21);
        ThoughtsDrip z = new ThoughtsDrip();
        z.person(1, 1);
        for (int k = 0; k < 21; k++) {
            z.mend(0, k % 2, k + 2);
            z.mend(0, 5 + k % 2, k / 2 % 7 + 1);
        }
        int[] was = {z.of(0, 0), z.of(0, 1), z.of(0, 5), z.of(0, 6)};
        for (int k = 39; k >= 0; k--) {
            is("undo", z.undo(), k);
        }
        is("no more", z.undo(), STATE);
        is("the two oldest stand", z.of(0, 0) * 100 + z.of(0, 1) * 10 + z.of(0, 5), 211);
        is("HOUR as at first", z.of(0, 6), 0);
        for (int k = 39; k >= 0; k--) {
            is("redo", z.redo(), k);
        }
        is("FLAT as it was", z.of(0, 0), was[0]);
        is("OUT as it was", z.of(0, 1), was[1]);
        is("IRON as it was", z.of(0, 5), was[2]);
        is("HOUR as it was", z.of(0, 6), was[3]);
    }

    private void body() {
        about = "promise 34";
        ThoughtsDrip x = new ThoughtsDrip();
        is("kind 8", x.body(8), BAD);
        is("kind -1", x.body(-1), BAD);
        for (int k = 0; k < 50; k++) {
            is("a BODY", x.body(k % 8), k);
        }
        is("a fifty-first", x.body(0), FULL);
        is("a fifty-first of no kind", x.body(8), BAD);
        is("the last one acts", x.act(49, 2, 0), 49);
    }

    private void act() {
        about = "promise 35";
        ThoughtsDrip x = new ThoughtsDrip();
        int[][] want = {
            // by kind (and number) k with x = 5: falls, runs, thinks, tells
            {5, 10, 5, 9},
            {9, 18, 4, 18},
            {7, -14, 7, -17},
            {8, -18, 18, -24},
            {12, 24, 1, 22},
            {10, -22, -7, -26},
            {22, 44, 3, 37},
            {23, 51, 2, 45},
        };
        for (int kind = 0; kind < 8; kind++) {
            x.body(kind);
        }
        for (int kind = 0; kind < 8; kind++) {
            for (int act = 0; act < 4; act++) {
                is("act(" + kind + ", " + act + ", 5)", x.act(kind, act, 5), want[kind][act]);
            }
        }
        is("an int that wraps", x.act(0, 1, Integer.MAX_VALUE), -2);
        is("an int that wraps", x.act(1, 0, Integer.MAX_VALUE), Integer.MIN_VALUE + 3);
        is("no such BODY", x.act(8, 0, 5), 0);
        is("no TRACE then", x.trace(0), BAD);
        x.act(0, 0, 5);
        is("no such BODY", x.act(-1, 0, 5), 0);
        is("none began", x.count(5), 0);
        x.act(0, 0, 5);
        is("no such ACT", x.act(0, 4, 5), 0);
        is("none began", x.count(5), 0);
        x.act(0, 0, 5);
        is("no such ACT", x.act(0, -1, 5), 0);
        is("no TRACE then", x.trace(0), BAD);
    }

    private void trace() {
        about = "promise 36";
        int[][] tells = {
            {2, 10, 1, 11},
            {2, 10, 20, 1, 11},
            {2, 30, 10, 1, 11},
            {2, 41, 30, 10, 1, 40, 11},
            {50, 2, 10, 20, 1, 11},
            {61, 2, 41, 30, 10, 1, 60, 40, 11, 1},
            {2, 10, 70, 1, 11},
            {2, 80, 10, 81, 70, 1, 11, 11},
        };
        ThoughtsDrip x = new ThoughtsDrip();
        for (int kind = 0; kind < 8; kind++) {
            x.body(kind);
            x.act(kind, 3, 1);
            is("count(5)", x.count(5), tells[kind].length);
            for (int i = 0; i < tells[kind].length; i++) {
                is("kind " + kind + ", trace(" + i + ")", x.trace(i), tells[kind][i]);
            }
            is("behind the last", x.trace(tells[kind].length), BAD);
        }
        is("trace(-1)", x.trace(-1), BAD);
        is("trace(24)", x.trace(24), BAD);
        is("far", x.trace(Integer.MAX_VALUE), BAD);
        x.act(0, 0, 1);
        is("the latest alone", x.trace(0) * 10 + x.trace(1), 9);
    }

    private void keep() {
        about = "promise 37";
        ThoughtsDrip x = new ThoughtsDrip();
        is("no such BODY", x.keep(0, 0), BAD);
        x.body(4);
        is("a BODY", x.keep(5, 0), 1);
        is("it is there", x.taken(5, 4), 4);
        is("nothing", x.keep(5, -1), 1);
        is("nothing is there", x.taken(5, 4), NONE);
        x.row(5, 3, 2);
        is("in a ROW's place", x.keep(5, 0), 1);
        is("no ROW", x.put(5, 0, 1), KIND);
        x.row(4, 3, 2);
        is("nothing in a ROW's place", x.keep(4, -1), 1);
        is("nothing", x.put(4, 0, 1), NONE);
        is("body -2", x.keep(0, -2), BAD);
        is("body 1", x.keep(0, 1), BAD);
        is("shelf 6", x.keep(6, -1), BAD);
        is("shelf -1", x.keep(-1, -1), BAD);
    }

    private void row() {
        about = "promise 38";
        ThoughtsDrip x = new ThoughtsDrip();
        for (int sort = 0; sort < 5; sort++) {
            is("60 elements", x.row(sort, sort, 60), 1);
            is("the last one", x.element(sort, 59), 0);
            is("no more", x.put(sort, 60, 0), PLACE);
            x.put(sort, 0, 1);
            x.put(sort, 3, 1);
            is("another ROW", x.row(sort, sort, 4), 1);
            is("0 at first", x.element(sort, 3) + x.element(sort, 0), 0);
            is("of 0 elements", x.row(sort, sort, 0), 1);
            is("no place", x.put(sort, 0, 0), PLACE);
            is("61", x.row(sort, sort, 61), BAD);
            is("below 0", x.row(sort, sort, -1), SIZE);
            is("far below 0", x.row(sort, sort, Integer.MIN_VALUE), SIZE);
        }
        x.body(0);
        x.keep(0, 0);
        is("in a BODY's place", x.row(0, 0, 1), 1);
        is("no BODY", x.taken(0, 0), KIND);
        is("sort 5", x.row(0, 5, 1), BAD);
        is("sort -1", x.row(0, -1, 1), BAD);
        is("sort 5, below 0", x.row(0, 5, -1), BAD);
        is("shelf 6", x.row(6, 0, 1), BAD);
        is("shelf -1", x.row(-1, 0, -1), BAD);
        is("it stands", x.put(0, 0, 1), 1);
    }

    private void put() {
        about = "promise 39";
        ThoughtsDrip x = new ThoughtsDrip();
        long v = 0x123456789abcdef0L;
        long[] want = {(byte) 0xf0, (short) 0xdef0, 0x9abcdef0, v, 1};
        for (int sort = 0; sort < 5; sort++) {
            x.row(sort, sort, 3);
            is("put", x.put(sort, 2, v), 1);
            is("lowest bits, sort " + sort, x.element(sort, 2), want[sort]);
            is("the others stay", x.element(sort, 1), 0);
            is("put 0", x.put(sort, 2, 0), 1);
            is("0", x.element(sort, 2), 0);
            is("-13", x.put(sort, 3, 0), PLACE);
            is("-13", x.put(sort, -1, 0), PLACE);
        }
        is("a byte of 128", x.put(0, 0, 128), 1);
        is("-128", x.element(0, 0), -128);
        is("a boolean of 256", x.put(4, 0, 256), 1);
        is("1", x.element(4, 0), 1);
        is("nothing there", x.put(5, 0, 0), NONE);
        x.body(0);
        x.keep(5, 0);
        is("a BODY", x.put(5, 0, 0), KIND);
        is("shelf 6", x.put(6, 0, 0), BAD);
        is("shelf -1", x.put(-1, 0, 0), BAD);
    }

    private void element() {
        about = "promise 40";
        ThoughtsDrip x = new ThoughtsDrip();
        x.row(0, 3, 2);
        x.put(0, 1, -1);
        is("-1", x.element(0, 1), -1);
        x.put(0, 1, Long.MAX_VALUE);
        is("the greatest", x.element(0, 1), Long.MAX_VALUE);
        is("no place", x.element(0, 2), Long.MIN_VALUE);
        is("no place", x.element(0, -1), Long.MIN_VALUE);
        is("nothing there", x.element(1, 0), Long.MIN_VALUE);
        x.body(0);
        x.keep(1, 0);
        is("a BODY", x.element(1, 0), Long.MIN_VALUE);
        is("shelf 6", x.element(6, 0), Long.MIN_VALUE);
        is("shelf -1", x.element(-1, 0), Long.MIN_VALUE);
    }

    private static long digits(ThoughtsDrip x, int shelf, int n) {
        long all = 0;
        for (int i = 0; i < n; i++) {
            all = all * 10 + x.element(shelf, i);
        }
        return all;
    }

    private void shift() {
        about = "promise 41";
        ThoughtsDrip x = new ThoughtsDrip();
        shorts(x, 0, 1, 2, 3, 4, 5);
        shorts(x, 1, 6, 7, 8);
        is("to another", x.shift(0, 3, 1, 0, 2), 2);
        is("there", digits(x, 1, 3), 458);
        is("here as they were", digits(x, 0, 5), 12345);
        is("on in the same", x.shift(0, 0, 0, 1, 4), 4);
        is("as they all were before", digits(x, 0, 5), 11234);
        is("back in the same", x.shift(0, 1, 0, 0, 4), 4);
        is("as they all were before", digits(x, 0, 5), 12344);
        is("none", x.shift(0, 0, 1, 0, 0), 0);
        is("none at the end", x.shift(0, 5, 1, 3, 0), 0);
        is("none behind the end", x.shift(0, 6, 1, 0, 0), PLACE);
        is("none behind the other's end", x.shift(0, 0, 1, 4, 0), PLACE);
        is("too many here", x.shift(1, 2, 0, 0, 2), PLACE);
        is("too many there", x.shift(0, 0, 1, 1, 3), PLACE);
        is("i -1", x.shift(0, -1, 1, 0, 1), PLACE);
        is("j -1", x.shift(0, 0, 1, -1, 1), PLACE);
        is("n below 0", x.shift(0, 0, 1, 0, -1), PLACE);
        is("n far", x.shift(0, 1, 1, 0, Integer.MAX_VALUE), PLACE);
        is("i far", x.shift(0, Integer.MAX_VALUE, 1, 0, 1), PLACE);
        is("n far below", x.shift(0, Integer.MAX_VALUE, 1, 0, Integer.MIN_VALUE), PLACE);
        is("nothing there", x.shift(0, 0, 2, 0, 1), NONE);
        is("nothing here", x.shift(2, 0, 0, 0, -1), NONE);
        x.row(2, 2, 5);
        is("unlike sorts", x.shift(0, 0, 2, 0, 1), KIND);
        is("unlike sorts, n below 0", x.shift(0, 0, 2, 0, -1), KIND);
        x.body(0);
        x.keep(3, 0);
        is("a BODY", x.shift(3, 0, 0, 0, 1), KIND);
        is("a BODY", x.shift(0, 0, 3, 0, 1), KIND);
        is("two BODIES", x.shift(3, 0, 3, 0, 1), KIND);
        is("nothing and a BODY", x.shift(3, 0, 4, 0, 1), NONE);
        is("shelf 6", x.shift(6, 0, 0, 0, 1), BAD);
        is("other 6", x.shift(0, 0, 6, 0, 1), BAD);
        is("shelf -1", x.shift(-1, 0, 4, 0, 1), BAD);
        is("other -1", x.shift(4, 0, -1, 0, 1), BAD);
        for (int sort = 0; sort < 5; sort++) {
            x.row(4, sort, 2);
            x.row(5, sort, 2);
            x.put(4, 0, 1);
            is("sort " + sort, x.shift(4, 0, 5, 1, 1), 1);
            is("sort " + sort, x.element(5, 1), 1);
        }
        is("all as before", digits(x, 0, 5) * 1000 + digits(x, 1, 3), 12344458);
    }

    private void taken() {
        about = "promise 42";
        int[] under = {0b11111111, 0b00010010, 0b00101100, 0b00101000, 0b00010000, 0b00100000, 0b11000000, 0b10000000};
        ThoughtsDrip x = new ThoughtsDrip();
        for (int kind = 0; kind < 8; kind++) {
            x.body(kind);
            x.keep(2, kind);
            for (int k = 0; k < 8; k++) {
                is("a BODY of " + kind + " for " + k, x.taken(2, k), (under[k] >> kind & 1) != 0 ? kind : KIND);
            }
        }
        is("nothing there", x.taken(1, 0), NONE);
        x.row(1, 0, 0);
        is("a ROW", x.taken(1, 0), KIND);
        is("k 8", x.taken(2, 8), BAD);
        is("k -1", x.taken(0, -1), BAD);
        is("shelf 6", x.taken(6, 0), BAD);
        is("shelf -1", x.taken(-1, 0), BAD);
    }

    private void count() {
        about = "promise 43";
        ThoughtsDrip x = two();
        x.awning(23);
        x.awning(0);
        x.awning(0);
        x.mend(7, 4, 3);
        x.mend(0, 4, 0);
        feedAll(x, "abc");
        x.body(1);
        x.body(7);
        x.act(1, 3, 5);
        is("PEOPLE", x.count(0), 2);
        is("AWNINGS", x.count(1), 2);
        is("bytes", x.count(2), 3);
        is("changes", x.count(3), 5);
        is("BODIES", x.count(4), 2);
        is("bodies that ran", x.count(5), 8);
        x.undo();
        is("changes", x.count(3), 4);
        is("AWNINGS", x.count(1), 3);
        is("what 6", x.count(6), BAD);
        is("what -1", x.count(-1), BAD);
    }

    /** What is asked in thought, and what is refused, changes nothing. */
    private void nothingChanges() {
        about = "in thought";
        ThoughtsDrip x = two();
        x.person(5, 77);
        x.mend(20, 2, 3);
        basin(x, 0, 11, 4, 0, 0);
        long before = state(x);
        for (int pm = 0; pm < 23; pm++) {
            x.change(pm, pm % 2, -1);
            x.wet(48, pm);
            x.thought(0, 3, pm, 1);
            x.odds(pm, 3, 0);
            x.mean(pm, 3, 1);
            x.byTurns(pm, 6, 0);
            x.drawn(pm, 212, 0);
            x.comes(pm, 0, 1);
        }
        for (int one = 0; one < 3; one++) {
            x.dry(one, 0);
            x.swap(one);
            x.from(one, 1);
            x.first(one);
            x.rent(one, 500);
            x.most(48, one, 1);
            x.who(0, one, 2);
            x.caught(48, one);
            x.porter(one, one);
        }
        is("the same as before", state(x), before);
    }

    private static long state(ThoughtsDrip x) {
        long all = x.of(0, 5) * 100 + x.of(0, 6);
        for (int what = 0; what < 6; what++) {
            all = all * 31 + x.count(what);
        }
        for (int flat = 0; flat < 24; flat++) {
            all = all * 31 + x.of(flat, 4);
        }
        for (int pm = 0; pm < 23; pm++) {
            all = all * 31 + x.of(pm, 2);
            all = all * 31 + x.of(pm, 3);
        }
        for (int one = 0; one < 3; one++) {
            all = all * 31 + x.of(one, 0);
            all = all * 31 + x.of(one, 1);
        }
        for (int what = 0; what < 5; what++) {
            all = all * 31 + x.led(what);
        }
        return all;
    }
}

/** What the document's first block says of THE TAPE and THE LAW: each sentence's edges, worked out by hand. */
public final class LawEdgeTests extends Asking {
    public static void main(String[] args) {
        LawEdgeTests t = new LawEdgeTests();
        t.tapeOf120();
        t.tapeIsEmptyThen();
        t.oneLineOrMore();
        t.linesWithAQuestion();
        t.firstBytes();
        t.secondBytes();
        t.bytesWithin();
        t.oneComparison();
        t.numbers();
        t.noBlanks();
        t.names();
        t.openAtOnce();
        t.wraps();
        t.division();
        t.truth();
        t.firstLineThatCounts();
        t.faults();
        t.heldWithin();
        t.withoutAText();
        t.due.end("LawEdgeTests");
    }

    /** One thinks 9 of MARK 2 on FLOOR 6 of stack 1; AWNING 2, IRON 4. */
    private static ThoughtsDrip nine() {
        ThoughtsDrip x = new ThoughtsDrip();
        x.person(14, ALWAYS);
        x.mend(2, 2, 9);
        x.mend(14, 4, 2);
        x.mend(0, 5, 4);
        return x;
    }

    /** A text is taken, and of 9 so much runs on by it. */
    private void gives(String text, int want) {
        ThoughtsDrip x = nine();
        is("law of " + text, tell(x, text), 1);
        is("what runs on by " + text, x.comes(14, 2, 1), want);
    }

    private void fault(String text, int place) {
        ThoughtsDrip x = nine();
        is("fault of " + text, tell(x, text), -100 - place);
        is("THE TAPE behind " + text, x.count(2), 0);
        is("no law by " + text, x.comes(14, 2, 1), 6);
    }

    private void tapeOf120() {
        about = "THE TAPE (at most 120 bytes)";
        String text = "0".repeat(4) + "+0".repeat(57) + "+6";
        is("a text of 120 bytes", text.length(), 120);
        ThoughtsDrip x = nine();
        for (int k = 0; k < 120; k++) {
            is("byte " + k, x.feed(text.charAt(k)), k + 1);
        }
        is("one more", x.feed('1'), FULL);
        is("one more", x.feed(0), FULL);
        is("one that is no byte", x.feed(256), BAD);
        is("one that is no byte", x.feed(-1), BAD);
        is("none came", x.count(2), 120);
        is("the text of 120 bytes", x.law(), 1);
        is("to its last byte", x.comes(14, 2, 1), 6);
        fault("0+".repeat(60), 120);
        fault("0+".repeat(59) + "0 ", 119);
        fault("(" + "0+".repeat(59) + "0", 120);
        gives("(" + "0+".repeat(58) + "8)", 8);
    }

    private void tapeIsEmptyThen() {
        about = "law(): THE TAPE is empty then";
        ThoughtsDrip x = nine();
        is("nothing on it", x.law(), -100);
        is("the law is none still", x.comes(14, 2, 1), 6);
        is("a text", tell(x, "4"), 1);
        is("bytes", x.count(2), 0);
        is("nothing on it again", x.law(), -100);
        is("the law stays", x.comes(14, 2, 1), 4);
        is("a text with a fault", tell(x, "5)"), -101);
        is("bytes", x.count(2), 0);
        is("the law stays", x.comes(14, 2, 1), 4);
        is("the first byte behind that", x.feed('5'), 1);
        is("it is all of the text", x.law(), 1);
        is("the law is another", x.comes(14, 2, 1), 5);
        is("a shorter one", tell(x, "1"), 1);
        is("nothing of the ones before", x.comes(14, 2, 1), 1);
    }

    private void oneLineOrMore() {
        about = "LINES, one or more, parted by ;";
        fault("", 0);
        gives("7", 7);
        gives("0?1;7", 7);
        gives("0?1;".repeat(29) + "7", 7);
        gives("0?1;".repeat(29) + "1?7", 7);
        fault(";", 0);
        fault("7;", 2);
        fault(";7", 0);
        fault("7;;7", 2);
        fault("7;7;", 4);
        fault("7,7", 1);
        fault("7:7", 1);
        fault("0?1;".repeat(29) + "7;", 118);
    }

    private void linesWithAQuestion() {
        about = "LINE: E, or E ? E";
        gives("1?7", 7);
        gives("1|0?7|0", 1);
        gives("0&1?7;4", 4);
        gives("1?a&0+1", 1);
        fault("?7", 0);
        fault("1?", 2);
        fault("1?;7", 2);
        fault("1?7?7", 3);
        fault("1??7", 2);
        fault("(1?7)", 2);
        fault("1?(7?7)", 4);
        fault("1?7;2?7?", 7);
    }

    /** A text of but one byte: good, or it could go on (a FAULT at 1), or no TEXT begins so (a FAULT at 0). */
    private void firstBytes() {
        about = "the first byte";
        for (int b = 0; b < 256; b++) {
            int want = "0123456789awifmn".indexOf(b) >= 0 ? 1 : "(!-".indexOf(b) >= 0 ? -101 : -100;
            is("byte " + b, tell(new ThoughtsDrip(), "" + (char) b), want);
        }
    }

    private void secondBytes() {
        about = "the second byte";
        for (int b = 0; b < 256; b++) {
            boolean digit = b >= '0' && b <= '9';
            boolean begins = digit || "awifmn".indexOf(b) >= 0;
            boolean opens = "(!-".indexOf(b) >= 0;
            boolean joins = "|&<=>+-*/%?;".indexOf(b) >= 0;
            is("behind a: " + b, tell(new ThoughtsDrip(), "a" + (char) b), joins ? -102 : -101);
            is("behind 1: " + b, tell(new ThoughtsDrip(), "1" + (char) b), digit ? 1 : joins ? -102 : -101);
            is("behind (: " + b, tell(new ThoughtsDrip(), "(" + (char) b), begins || opens ? -102 : -101);
            is("behind !: " + b, tell(new ThoughtsDrip(), "!" + (char) b), begins ? 1 : opens ? -102 : -101);
            is("behind -: " + b, tell(new ThoughtsDrip(), "-" + (char) b), begins ? 1 : opens ? -102 : -101);
        }
    }

    /** Each byte behind longer beginnings. */
    private void bytesWithin() {
        about = "a byte within";
        for (int b = 0; b < 256; b++) {
            boolean begins = b >= '0' && b <= '9' || "awifmn".indexOf(b) >= 0;
            boolean opens = "(!-".indexOf(b) >= 0;
            boolean joins = "|&+-*/%".indexOf(b) >= 0;
            boolean likens = "<=>".indexOf(b) >= 0;
            for (String sign : new String[] {"|", "&", "<", "=", ">", "+", "-", "*", "/", "%", "?", ";"}) {
                is("behind a" + sign + ": " + b, tell(new ThoughtsDrip(), "a" + sign + (char) b),
                    begins ? 1 : opens ? -103 : -102);
            }
            is("behind (a: " + b, tell(new ThoughtsDrip(), "(a" + (char) b), joins || likens || b == ')' ? b == ')' ? 1 : -103 : -102);
            is("behind a<a: " + b, tell(new ThoughtsDrip(), "a<a" + (char) b), joins || b == '?' || b == ';' ? -104 : -103);
            is("behind a?a: " + b, tell(new ThoughtsDrip(), "a?a" + (char) b), joins || likens || b == ';' ? -104 : -103);
            is("behind (a): " + b, tell(new ThoughtsDrip(), "(a)" + (char) b),
                joins || likens || b == '?' || b == ';' ? -104 : -103);
        }
    }

    private void oneComparison() {
        about = "B = S, or S < S, S = S, S > S";
        fault("1<2<3", 3);
        fault("1<2=3", 3);
        fault("1=2>3", 3);
        fault("1>2+3<4", 5);
        fault("(1<2<3)", 4);
        fault("1<2?1<2<3", 7);
        gives("(1<2)<3", 1);
        gives("1<2&2<3", 1);
        gives("1<2|2<3", 1);
        gives("1<2?2<3", 1);
        gives("(2<2)+(2>2)+3", 3);
        gives("(1<2)+(2=2)+(3>2)", 3);
        gives("(2<1)+(1=2)+(1>2)+4", 4);
    }

    private void numbers() {
        about = "a number (1 to 4 digits)";
        gives("0", 0);
        gives("9", 9);
        gives("10", 9);
        gives("0000", 0);
        gives("0009", 9);
        gives("9999", 9);
        gives("9999-9994", 5);
        gives("(9999=9998+1)*3", 3);
        gives("(1000=999+1)*3", 3);
        fault("00000", 4);
        fault("10000", 4);
        fault("99999", 4);
        fault("a+00001", 6);
        fault("1?10000", 6);
        fault("9a", 1);
        fault("a9", 1);
        fault("9999a", 4);
        fault("9(", 1);
        fault("9!", 1);
        fault("0x1", 1);
        fault("1.5", 1);
    }

    private void noBlanks() {
        about = "No blanks";
        fault(" ", 0);
        fault(" a", 0);
        fault("a ", 1);
        fault("a +1", 1);
        fault("a+ 1", 2);
        fault("( a)", 1);
        fault("(a )", 2);
        fault("! a", 1);
        fault("a? 1", 2);
        fault("a; 1", 2);
        fault("1 2", 1);
        fault("\ta", 0);
        fault("a\n", 1);
        fault("a\r", 1);
        fault("a\u00a0", 1);
        fault("a\0", 1);
    }

    private void names() {
        about = "NAMES";
        fault("A", 0);
        fault("W", 0);
        fault("b", 0);
        fault("aw", 1);
        fault("nn", 1);
        for (int v = 0; v <= 9; v++) {
            ThoughtsDrip x = nine();
            x.mend(2, 2, v);
            tell(x, "a");
            is("a " + v, x.comes(14, 2, 1), v);
            x = nine();
            x.mend(14, 4, v);
            tell(x, "w");
            is("w " + v, x.comes(14, 2, 1), v);
            x.mend(0, 5, v);
            tell(x, "i");
            is("i " + v, x.comes(14, 2, 1), v);
        }
        for (int flat = 0; flat < 24; flat++) {
            ThoughtsDrip x = nine();
            x.moves(0, flat);
            tell(x, "f");
            is("f at " + flat, x.comes(flat, 2, 1), flat % 8);
        }
        for (int mark = 0; mark < 4; mark++) {
            ThoughtsDrip x = nine();
            x.mend(mark, 2, 9);
            tell(x, "m");
            is("m " + mark, x.comes(14, mark, 1), mark);
        }
        ThoughtsDrip x = nine();
        tell(x, "n=0?7;a");
        is("n 0: nobody is there", x.comes(13, 2, 1), 7);
        is("n 1", x.comes(14, 2, 1), 9);
        x.person(13, 1);
        is("n 0: who is there is not out", x.comes(113, 2, 1), 7);
        is("n 1: he is", x.comes(13, 2, 1), 9);
        x = nine();
        for (int p = 1; p < 6; p++) {
            tell(x, "n");
            is("n " + p, x.comes(14, 2, 1), p);
            x.person(14, ALWAYS);
        }
        tell(x, "n");
        is("n 6, thinking or not", x.comes(14, 2, 1), 6);
    }

    private void openAtOnce() {
        about = "At most 6 of ( ! - ahead of an O are open at once";
        for (char c : new char[] {'(', '!', '-'}) {
            for (int many = 0; many <= 9; many++) {
                String text = (c + "").repeat(many) + "5" + (c == '(' ? ")".repeat(many) : "");
                is(many + " of " + c, tell(new ThoughtsDrip(), text), many <= 6 ? 1 : -106);
                is(many + " of " + c + " behind ?", tell(new ThoughtsDrip(), "1?" + text), many <= 6 ? 1 : -108);
                is(many + " of " + c + " behind ;", tell(new ThoughtsDrip(), "1;" + text), many <= 6 ? 1 : -108);
                is(many + " of " + c + " behind + (closed again, so none is open)",
                    tell(new ThoughtsDrip(), "((((((1))))))+" + text), many <= 6 ? 1 : -120);
                is(many + " of " + c + " within one", tell(new ThoughtsDrip(), "(1+" + text + ")"), many <= 5 ? 1 : -108);
                is(many + " of " + c + " behind !", tell(new ThoughtsDrip(), "!" + text), many <= 5 ? 1 : -106);
            }
        }
        fault("((((((!1))))))", 6);
        fault("((((((-1))))))", 6);
        fault("!!!!!!(1)", 6);
        fault("------(1)", 6);
        gives("1-1-1-1-1-1-1-1+9", 3);
        gives("1-((((((1))))))", 0);
        gives("5------4", 9);
        gives("9-------4", 5);
        fault("9--------4", 8);
        gives("(!0)+(!0)+(!0)+(!0)+(!0)+(!0)+(!0)", 7);
        gives("!0+!0+!0+!0+!0+!0+!0+!0", 8);
    }

    private void wraps() {
        about = "Ints that wrap";
        // 8192 * 8192 * 32 is 2 to the 31st: the least int.
        gives("(8192*8192*32<0)*5", 5);
        gives("(8192*8192*32-1>0)*5", 5);
        gives("(8192*8192*32-1+1<0)*5", 5);
        gives("(-(8192*8192*32)<0)*5", 5);
        gives("(-(8192*8192*32)=8192*8192*32)*5", 5);
        gives("(8192*8192*64=0)*5", 5);
        gives("8192*8192*64+7", 7);
        gives("(8192*8192*32+8192*8192*32=0)*5", 5);
        gives("(8192*8192*31+8192*8192<0)*5", 5);
        gives("8192*8192*32", 0);
        gives("8192*8192*32-1", 9);
        gives("8192*8192*32+8192*8192*32+4", 4);
    }

    private void division() {
        about = "/ and % toward 0, by 0 they give 0";
        gives("7/2", 3);
        gives("-7/2+9", 6);
        gives("7/-2+9", 6);
        gives("-7/-2", 3);
        gives("1/2", 0);
        gives("-1/2+4", 4);
        gives("7%4", 3);
        gives("-7%4+9", 6);
        gives("7%-4", 3);
        gives("-7%-4+9", 6);
        gives("7/0", 0);
        gives("7%0", 0);
        gives("0/0", 0);
        gives("0%0", 0);
        gives("7/0+5", 5);
        gives("7%0+5", 5);
        gives("7/(2-2)*3+4", 4);
        gives("-7/0+1", 1);
        gives("a/(w-2)+3", 3);
        gives("8192*8192*32/0+2", 2);
        gives("8192*8192*32%0+2", 2);
        gives("(8192*8192*32/-1<0)*5", 5);
        gives("(8192*8192*32/-1=8192*8192*32)*5", 5);
        gives("8192*8192*32%-1+6", 6);
    }

    private void truth() {
        about = "| & < = > ! give 1, 0; all is worked out";
        gives("7|5", 1);
        gives("0|5", 1);
        gives("5|0", 1);
        gives("(0|0)+2", 2);
        gives("-1|0", 1);
        gives("7&5", 1);
        gives("-1&-2", 1);
        gives("4&2", 1);
        gives("(4&0)+2", 2);
        gives("(0&4)+2", 2);
        gives("(0&0)+2", 2);
        gives("!0", 1);
        gives("!7+3", 3);
        gives("!-1+3", 3);
        gives("!!7", 1);
        gives("(3<7)+(7>3)*2+(3=3)*4", 7);
        gives("(3>7)+(7<3)*2+(3=4)*4+1", 1);
        gives("(-1<0)*3", 3);
        gives("(0>-1)*3", 3);
        gives("1|5/0", 1);
        gives("0&5/0|1", 1);
        gives("1|0&0", 1);
        gives("!0&!0", 1);
        gives("1<2|0", 1);
        gives("2&1<2", 1);
        gives("1+1=2", 1);
    }

    private void firstLineThatCounts() {
        about = "The first LINE without a first E, or whose first E is not 0, counts; none: 0";
        gives("3;4", 3);
        gives("0;4", 0);
        gives("1?3;4", 3);
        gives("0?3;4", 4);
        gives("-1?3;4", 3);
        gives("8192*8192*32?3;4", 3);
        gives("8192*8192*64?3;4", 4);
        gives("1?0;4", 0);
        gives("0?3;0?4;5", 5);
        gives("0?3;1?4;5", 4);
        gives("0?3;4;5", 4);
        gives("0?3", 0);
        gives("0?3;0?4", 0);
        gives("0?1;".repeat(29) + "0?9", 0);
        gives("5/0?3;4", 4);
        gives("0?5/0;4", 4);
    }

    private void faults() {
        about = "FAULT: the first byte with which no TEXT goes on; the length, if it ends too early";
        fault("(", 1);
        fault("((", 2);
        fault("(a", 2);
        fault("(a+", 3);
        fault("(a+b)", 3);
        fault("a+(b", 3);
        fault("()", 1);
        fault(")", 0);
        fault("a)", 1);
        fault("(a))", 3);
        fault("a+)", 2);
        fault("a*", 2);
        fault("a**a", 2);
        fault("*a", 0);
        fault("a+*a", 2);
        fault("a!=1", 1);
        fault("a==1", 2);
        fault("a<=1", 2);
        fault("a&&a", 2);
        fault("a||a", 2);
        fault("a&|a", 2);
        fault("+1", 0);
        fault("a^1", 1);
        fault("a1?", 1);
        fault("1;x;1?", 2);
        fault("a+1;b+2", 4);
        fault("\u00ff", 0);
        fault("a+\u0000", 2);
        fault("99999;)", 4);
    }

    private void heldWithin() {
        about = "held within 0 .. a";
        gives("0", 0);
        gives("0-1", 0);
        gives("-9999", 0);
        gives("8", 8);
        gives("9", 9);
        gives("a", 9);
        gives("a+1", 9);
        gives("10", 9);
        ThoughtsDrip x = nine();
        tell(x, "9");
        is("of nothing nothing runs on", x.comes(14, 0, 1), 0);
        is("nor to THE PORTER", x.porter(0, 0), 0);
        is("9 all the way", x.porter(0, 2), 9);
        x.mend(2, 2, 1);
        is("a 1", x.comes(14, 2, 1), 1);
    }

    private void withoutAText() {
        about = "Without a text: a, less w, less i by 3 (cut)";
        int[] byIron = {9, 9, 9, 8, 8, 8, 7, 7, 7, 6};
        for (int iron = 0; iron <= 9; iron++) {
            ThoughtsDrip x = nine();
            x.mend(14, 4, 0);
            x.mend(0, 5, iron);
            is("IRON " + iron, x.comes(14, 2, 1), byIron[iron]);
            for (int w = 1; w <= 9; w++) {
                x.mend(14, 4, w);
                is("IRON " + iron + ", AWNING " + w, x.comes(14, 2, 1), Math.max(0, byIron[iron] - w));
            }
        }
    }
}

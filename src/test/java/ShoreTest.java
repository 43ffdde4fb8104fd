/** Promises 1 to 9: a new object, the tape, the text and its faults, and what the shore tells of itself. */
public final class ShoreTest {
    private static final String HEAD = "shore rows 2 columns 2;";

    private static void oneTextBehindAnother() {
        SandHold x = new SandHold();
        String eight = "owes 0 1 1;".repeat(8);
        Check.due("eight debts", Check.shore(x, HEAD + eight), 9);
        Check.due("eight again", Check.shore(x, HEAD + eight), 9);
        Check.due("and none of those ahead", x.balance(1), 8);
        Check.shore(x, "shore rows 1 columns 5;house 4 owner 0;house 3 owner 0;tide:9;washes:8;gale 5;moon 5;");
        x.minutes(1);
        Check.shore(x, "shore rows 5 columns 1;house 4 owner 1;");
        Check.due("houses anew", x.count(3), 1);
        Check.due("wet in a column", x.wet(3), 7);
        x.minutes(1);
        Check.due("no washes", x.sand(0), 0);
        Check.shore(x, "shore rows 2 columns 3;sand 2 9;sand 3 0;sand 0 9;sand 1 9;");
        Check.due("no house", x.count(3), 0);
        Check.due("sides anew", x.wet(5), 0);
        Check.due("no moon", x.count(4), 0);
        Check.due("one that fails leaves nothing behind", Check.shore(x, HEAD + "house 1 owner 1;plot 1 minutes 1 worth 1;paper 0 1;x"), -32);
        Check.due("the next", Check.shore(x, HEAD), 1);
        Check.due("no house of it", x.count(2), 0);
        Check.due("none stands", x.count(3), 0);
        Check.due("no plot of it", x.count(7), 0);
        Check.due("no paper of it", x.count(8), 0);
    }

    private static void readAsFarAsTold() {
        SandHold x = new SandHold();
        Check.feed(x, "shore rows 1 columns 12;");
        Check.due("columns 1, then the end", x.shore(22), -32);
        Check.due("the end", x.fault(1), 22);
        Check.feed(x, "shore rows 2 columns 5;moon 1;xx");
        Check.due("not what is behind", x.shore(30), 2);
        Check.feed(x, "shore rows 2 columns 5;moons");
        Check.due("moon, then the end", x.shore(27), -32);
        Check.due("the end", x.fault(1), 27);
    }

    private static void aNewObject() {
        SandHold x = new SandHold();
        int[] counts = {1, 1, 0, 0, 0, 0, 0, 0, 0, 0, 0, 0};
        for (int what = 0; what < counts.length; what++) {
            Check.due("new count(" + what + ")", x.count(what), counts[what]);
        }
        Check.due("new sand(0)", x.sand(0), 0);
        Check.due("new sand(1)", x.sand(1), -2);
        Check.due("new house(0, 0)", x.house(0, 0), -2);
        Check.due("new fault(0)", x.fault(0), 0);
        Check.due("new fault(1)", x.fault(1), -1);
        Check.due("new gale", x.mean(1, 1), 1);
        Check.due("NONE", SandHold.NONE, -1);
    }

    private static void feedFillsTheTape() {
        SandHold x = new SandHold();
        for (int i = 1; i <= 45; i++) {
            Check.due("feed " + i, x.feed(0x20202020, 0x20202020, 0x20202020, 0x20202020, 0x20202020), 20 * i);
        }
        Check.due("feed 46", x.feed(0, 0, 0, 0, 0), -5);
        Check.due("the tape stays", x.count(10), 900);
        Check.due("900 blanks", x.shore(900), -32);
        Check.due("their end", x.fault(1), 900);
        Check.due("the tape is empty", x.count(10), 0);
        Check.due("feed again", x.feed(1, 2, 3, 4, 5), 20);
    }

    private static void feedPutsTheHighestByteFirst() {
        SandHold x = new SandHold();
        // "shore rows 4 columns" " 5;" and what isn't read
        x.feed(0x73686f72, 0x6520726f, 0x77732034, 0x20636f6c, 0x756d6e73);
        x.feed(0x20353bff, 0xffffffff, 0x80818283, 0, -1);
        Check.due("shore(23)", x.shore(23), 1);
        Check.due("rows", x.count(0), 4);
        Check.due("columns", x.count(1), 5);
    }

    private static void shoreReadsSoManyBytes() {
        SandHold x = new SandHold();
        Check.due("nothing to read", x.shore(1), -3);
        Check.due("below 0", x.shore(-1), -3);
        Check.due("not read: no fault", x.fault(1), -1);
        Check.due("none of it", x.shore(0), -32);
        Check.due("its fault", x.fault(0), 2);
        Check.due("its place", x.fault(1), 0);
        Check.feed(x, HEAD);
        Check.due("above what there is", x.shore(41), -3);
        Check.due("the tape stays", x.count(10), 40);
        Check.due("the fault stays", x.fault(0), 2);
        Check.due("all of it", x.shore(40), 1);
        Check.due("no fault", x.fault(0), 0);
        Check.due("no place", x.fault(1), -1);
        Check.due("fault(2)", x.fault(2), -1);
        Check.due("fault(-1)", x.fault(-1), -1);
    }

    private static void shoreBeginsAnew() {
        SandHold x = Check.with("shore rows 1 columns 2;house 0 owner 3;plot 1 minutes 2 worth 3;paper 0 1;owes 0 1 5;"
            + "moon 7;gale 5;tide:3;washes:9;");
        x.minutes(4);
        x.raise(0);
        Check.due("9 HIGH already", x.count(9), 1);
        Check.due("a faulty one", Check.shore(x, "shore rows 9 columns 2;"), -33);
        Check.due("all stays: rows", x.count(0), 1);
        Check.due("all stays: MINUTE", x.count(5), 4);
        Check.due("all stays: MOON", x.count(4), 7);
        Check.due("all stays: sand", x.sand(0), 9);
        Check.due("all stays: houses", x.count(3), 0);
        Check.due("all stays: undone", x.count(9), 1);
        Check.due("all stays: LINES", x.count(11), 9);
        Check.due("all stays: level", x.level(7), 3);
        Check.due("but the tape", x.count(10), 0);
        Check.due("a right one", Check.shore(x, "shore rows 2 columns 1;house 1 owner 4;"), 2);
        int[] counts = {2, 1, 1, 1, 0, 0, 1, 0, 0, 0, 0, 2};
        for (int what = 0; what < counts.length; what++) {
            Check.due("anew count(" + what + ")", x.count(what), counts[what]);
        }
        Check.due("the tide is the plain one", x.level(7), 7);
        Check.due("no debts", x.balance(1), 0);
        Check.due("no gale", x.mean(1, 1), 1);
        x.minutes(1);
        Check.due("no washes", x.sand(0), 0);
    }

    private static void fault(String text, int kind, int place) {
        SandHold x = new SandHold();
        Check.due("shore of " + text, Check.shore(x, text), -30 - kind);
        Check.due("fault(0) of " + text, x.fault(0), kind);
        Check.due("fault(1) of " + text, x.fault(1), place);
    }

    private static void line(String line, int kind, int place) {
        fault(HEAD + line, kind, place < 0 ? -1 : HEAD.length() + place);
    }

    private static void right(String line, int lines) {
        Check.due("shore of " + line, Check.shore(new SandHold(), HEAD + line), lines);
    }

    private static void faultsOfTokens() {
        fault("Shore rows 1 columns 1;", 1, 0);
        fault("shore\trows 1 columns 1;", 1, 5);
        fault("shore rows 1000 columns 1;", 1, 11);
        fault("shore rows 12345678901234567890 columns 1;", 1, 11);
        fault("shore rows 1 columns 1;" + (char) 233, 1, 23);
        fault("shore rows 1 columns 1;" + (char) 0, 1, 23);
        fault("shore rows 1 columns 1,", 1, 22);
        fault("sho.re", 2, 0);
        fault("shore. rows", 1, 5);
        line("tide:1/2;", 1, 6);
        line("tide:1000;", 1, 5);
        line("1000;", 1, 0);
        line("moon 0009;", 1, 5);
        right("moon 009;", 2);
        right("tide:999;", 2);
        right("\n\nsand\n0\n1\n;\n", 2);
        Check.due("no blanks at all", Check.shore(new SandHold(), "shore rows2columns2;sand0 1;house1owner2;"), 3);
    }

    private static void faultsOfPlaces() {
        fault("", 2, 0);
        fault("   ", 2, 3);
        fault("sand 0 1;", 2, 0);
        fault("rows 1 columns 1;", 2, 0);
        fault("shore columns 1 rows 1;", 2, 6);
        fault("shore rows 1 columns 1", 2, 22);
        fault("shore rows 1 columns 1  ", 2, 24);
        fault("shore rows ; columns 1;", 2, 11);
        fault("shores rows 1 columns 1;", 2, 0);
        fault("shor rows 1 columns 1;", 2, 0);
        fault("xhore rows 1 columns 1;", 2, 0);
        fault("shorx rows 1 columns 1;", 2, 0);
        line("zoo 1;", 2, 0);
        line("aoo 1;", 2, 0);
        line(HEAD, 2, 0);
        line(";", 2, 0);
        line("sea 1;", 2, 0);
        line("sand 1;", 2, 6);
        line("sand 1 2 3;", 2, 9);
        line("house 1 1;", 2, 8);
        line("plot 1 minutes 1;", 2, 16);
        line("paper 1;", 2, 7);
        line("owes 0 1;", 2, 8);
        line("moon x;", 2, 5);
        line("gale;", 2, 4);
        line("tide 1;", 2, 5);
        line("tide:;", 2, 5);
        line("tide:1", 2, 6);
        line("tide:-1;", 2, 5);
        line("tide:1+;", 2, 7);
        line("tide:1 2;", 2, 7);
        line("tide:(1;", 2, 7);
        line("tide:(1=1);", 2, 7);
        line("tide:[1];", 2, 5);
        line("tide:not 1=1;", 2, 5);
        line("tide:if 1 then 2 else 3 end;", 2, 10);
        line("tide:if 1=1 else 3 end;", 2, 12);
        line("tide:if 1=1 then 3 end;", 2, 19);
        line("tide:if 1=1 then 3 else 4;", 2, 25);
        line("tide:if [1=1 then 3 else 4 end;", 2, 13);
        line("tide:if 1=1=1 then 3 else 4 end;", 2, 11);
        line("tide:row;", 2, 5);
        line("tide:height;", 2, 5);
        line("tide:level;", 2, 5);
        line("tide:near;", 2, 5);
        line("tide:minutes;", 2, 5);
        right("washes:row+height+level+near+minute+moon;", 2);
        right("tide:minute+moon;", 2);
        line("washes:1;tide:near;", 2, 14);
    }

    private static void faultsOfBounds() {
        fault("shore rows 0 columns 1;", 3, 11);
        fault("shore rows 6 columns 1;", 3, 11);
        fault("shore rows 1 columns 0;", 3, 21);
        fault("shore rows 1 columns 6;", 3, 21);
        Check.due("the widest", Check.shore(new SandHold(), "shore rows 5 columns 5;sand 24 9;"), 2);
        fault("shore rows 5 columns 5;sand 25 9;", 3, 28);
        fault("shore rows 1 columns 5;sand 5 9;", 3, 28);
        line("sand 4 0;", 3, 5);
        line("sand 3 10;", 3, 7);
        line("house 4 owner 0;", 3, 6);
        line("house 3 owner 5;", 3, 14);
        line("house 3 owner 4;house 3 owner 4;", 3, 22);
        line("plot 4 minutes 1 worth 1;", 3, 5);
        line("plot 0 minutes 0 worth 1;", 3, 15);
        line("plot 0 minutes 10 worth 1;", 3, 15);
        line("plot 0 minutes 9 worth 10;", 3, 23);
        right("plot 0 minutes 9 worth 9;plot 0 minutes 1 worth 0;", 3);
        right("house 0 owner 0;plot 0 minutes 1 worth 1;sand 0 5;sand 0 6;", 5);
        line("paper 4 0;", 3, 6);
        line("paper 0 4;", 3, 8);
        line("owes 5 0 1;", 3, 5);
        line("owes 0 5 1;", 3, 7);
        line("owes 3 3 1;", 3, 7);
        line("owes 4 3 100;", 3, 9);
        right("owes 4 0 99;owes 0 4 0;", 3);
        line("moon 10;", 3, 5);
        line("gale 11;", 3, 5);
        right("gale 10;moon 9;moon 0;gale 0;", 5);
        line("owes 3 3;", 3, 7);
        line("sand 9 x;", 3, 5);
    }

    private static String times(String s, int n) {
        return s.repeat(n);
    }

    private static void faultsOfTooMany() {
        line(times("plot 0 minutes 1 worth 1;", 7), 4, 150);
        right(times("plot 0 minutes 1 worth 1;", 6), 7);
        line(times("paper 0 0;", 7), 4, 60);
        right(times("paper 0 0;", 6), 7);
        line(times("owes 0 1 1;", 9), 4, 88);
        right(times("owes 0 1 1;", 8), 9);
        right(times("sand 0 1;", 20), 21);
        String six = "shore rows 5 columns 5;";
        for (int i = 0; i < 6; i++) {
            six += "house " + i + " owner 0;";
        }
        Check.due("six houses", Check.shore(new SandHold(), six), 7);
        fault(six + "house 0", 4, 23 + 96);
        fault(six + "house 0 owner 0 ;", 4, 23 + 96);
        right("tide:" + times("(", 6) + "1" + times(")", 6) + ";", 2);
        line("tide:" + times("(", 7) + "1" + times(")", 7) + ";", 4, 11);
        right("tide:if " + times("not ", 5) + "1=1 then 1 else 2 end;", 2);
        line("tide:if " + times("not ", 6) + "1=1 then 1 else 2 end;", 4, 28);
        right("tide:if " + times("[", 5) + "1=1" + times("]", 5) + " then 1 else 2 end;", 2);
        line("tide:if " + times("[", 6) + "1=1" + times("]", 6) + " then 1 else 2 end;", 4, 13);
        line("tide:" + times("if 1=", 7), 4, 35);
        line("tide:" + times("if 1=1 then ", 7), 4, 77);
        line("tide:" + times("if 1=1 then 2 else ", 7), 4, 119);
        right("tide:" + times("(1)+", 20) + "(2);", 2);
        right("tide:" + times("if 1=1 then 1 else 2 end + ", 20) + "1;", 2);
        // what is within six and can't stand there is the lesser kind
        line("tide:" + times("(", 6) + "not", 2, 11);
        line("tide:" + times("(", 6) + "[", 2, 11);
        line("tide:" + times("(", 6) + "1(", 2, 12);
        line("tide:if not [not [not (", 4, 22);
        right("tide:if not [not [not 1=1]] or (1)=((1)) then 1 else ((((2)))) end;", 2);
    }

    private static void sandAsTold() {
        SandHold x = Check.with("shore rows 3 columns 2;sand 1 7;sand 1 8;sand 4 0;");
        int[] high = {0, 8, 1, 1, 0, 2};
        for (int c = 0; c < 6; c++) {
            Check.due("sand(" + c + ")", x.sand(c), high[c]);
        }
        Check.due("sand(-1)", x.sand(-1), -2);
        Check.due("sand(6)", x.sand(6), -2);
    }

    private static void housesAsTold() {
        SandHold x = Check.with("shore rows 2 columns 3;house 5 owner 4;house 0 owner 0;house 2 owner 3;");
        int[][] told = {{5, 4, 1}, {0, 0, 1}, {2, 3, 1}};
        for (int h = 0; h < 3; h++) {
            for (int what = 0; what < 3; what++) {
                Check.due("house(" + h + ", " + what + ")", x.house(h, what), told[h][what]);
            }
            Check.due("house's what -1", x.house(h, -1), -2);
            Check.due("house's what 3", x.house(h, 3), -2);
        }
        Check.due("house(3, 0)", x.house(3, 0), -2);
        Check.due("house(-1, 0)", x.house(-1, 0), -2);
        x.minutes(1);
        Check.due("house 0 stands", x.house(0, 2), 1);
        Check.due("house 1 fell", x.house(1, 2), 0);
        Check.due("house 1 is where it was", x.house(1, 0), 0);
    }

    private static void plotsAsTold() {
        SandHold x = Check.with("shore rows 2 columns 3;plot 5 minutes 9 worth 0;plot 5 minutes 1 worth 9;");
        int[][] told = {{5, 9, 0}, {5, 1, 9}};
        for (int p = 0; p < 2; p++) {
            for (int what = 0; what < 3; what++) {
                Check.due("plot(" + p + ", " + what + ")", x.plot(p, what), told[p][what]);
            }
            Check.due("plot's what -1", x.plot(p, -1), -2);
            Check.due("plot's what 3", x.plot(p, 3), -2);
        }
        Check.due("plot(2, 0)", x.plot(2, 0), -2);
        Check.due("plot(-1, 0)", x.plot(-1, 0), -2);
    }

    private static void levelsWithoutALaw() {
        SandHold x = new SandHold();
        int[] wave = {0, 1, 2, 3, 4, 5, 6, 7, 8, 9, 8, 7, 6, 5, 4, 3, 2, 1};
        for (int n = 0; n < 1000; n++) {
            Check.due("level(" + n + ")", x.level(n), wave[n % 18]);
        }
        Check.due("level(-1)", x.level(-1), -3);
        Check.due("level(1000)", x.level(1000), -3);
        x.minutes(5);
        Check.due("the n-th MINUTE, not from now on", x.level(2), 2);
    }

    private static void law(String law, int minute, int moon, int want) {
        SandHold x = Check.with(HEAD + "tide:" + law + ";moon " + moon + ";");
        Check.due(law + " in " + minute + " by " + moon, x.level(minute), want);
    }

    private static void levelsByALaw() {
        law("7", 3, 4, 7);
        law("11", 3, 4, 10);
        law("10", 3, 4, 10);
        law("0-1", 3, 4, 0);
        law("minute", 3, 4, 3);
        law("moon", 3, 4, 4);
        law("9-2-3", 0, 0, 4);
        law("9-(2-3)", 0, 0, 10);
        law("9-2*3", 0, 0, 3);
        law("(9-7)*3", 0, 0, 6);
        law("2*3*1", 0, 0, 6);
        law("2+3*2-1", 0, 0, 7);
        law("999*999*999-999*999*0-999*999*999+5", 0, 0, 5);
        law("999*999+999*999-999*999", 0, 0, 10);
        // kept at 1,000,000: 998,001 + 1,999 is that, one more is cut
        law("999*999+999+999+1+9-999*999-999-999-1", 0, 0, 0);
        law("999*999+999+999-999*999-999-999+3", 0, 0, 3);
        law("0-999*999-999-999-1-9+999*999+999+999+1+4", 0, 0, 4);
        law("0-999*999-999-999-1-9+999*999+999+999+1", 0, 0, 0);
        law("0-999*999-999-999-9+999*999+999+999+7", 0, 0, 6);
        law("if minute<3 then 1 else 2 end", 2, 0, 1);
        law("if minute<3 then 1 else 2 end", 3, 0, 2);
        law("if minute>3 then 1 else 2 end", 3, 0, 2);
        law("if minute>3 then 1 else 2 end", 4, 0, 1);
        law("if minute=3 then 1 else 2 end", 3, 0, 1);
        law("if minute=3 then 1 else 2 end", 4, 0, 2);
        law("if not minute=3 then 1 else 2 end", 4, 0, 1);
        law("if not not minute=3 then 1 else 2 end", 4, 0, 2);
        law("if 1=1 or 1=2 and 1=2 then 1 else 2 end", 0, 0, 1);
        law("if [1=1 or 1=2] and 1=2 then 1 else 2 end", 0, 0, 2);
        law("if not 1=2 and 1=2 then 1 else 2 end", 0, 0, 2);
        law("if not [1=2 and 1=2] then 1 else 2 end", 0, 0, 1);
        law("if 1<2 and 1=1 then 1 else 2 end", 0, 0, 1);
        law("if 2>1 and 1=1 then 1 else 2 end", 0, 0, 1);
        law("if not 1=2 and not 2<1 then 1 else 2 end", 0, 0, 1);
        law("if not 1<2 or not 2>1 then 1 else 2 end", 0, 0, 2);
        law("if 1=2 or 1=2 or 2=2 then 1 else 2 end", 0, 0, 1);
        law("if 1=1 and 2=2 and 3=4 then 1 else 2 end", 0, 0, 2);
        law("if 1+2=3 then 4 else 5 end + if (1)+2<3 then 1 else 2 end", 0, 0, 6);
        law("if 1=1 then if 2=3 then 1 else 8 end else 9 end*1", 0, 0, 8);
        law("007", 0, 0, 7);
        law("minute*minute-990*999", 999, 0, 10);
        SandHold x = Check.with(HEAD + "tide:1;tide:moon+2;moon 3;tide:moon+1;");
        Check.due("the latest strikes", x.level(0), 4);
        x.moon(5);
        Check.due("by the MOON now", x.level(0), 6);
    }

    private static void wetCells() {
        // a wall with a gap, a pool behind it, and a hollow that no water comes to
        SandHold x = Check.with("shore rows 3 columns 4;sand 0 3;sand 1 3;sand 2 1;sand 3 3;"
            + "sand 4 0;sand 5 2;sand 6 2;sand 7 0;sand 8 5;sand 9 5;sand 10 5;sand 11 0;");
        Check.due("wet(0)", x.wet(0), 0);
        Check.due("wet(1)", x.wet(1), 0);
        Check.due("wet(2)", x.wet(2), 1 << 2);
        Check.due("wet(3)", x.wet(3), 1 << 2 | 0xF0 | 1 << 11);
        Check.due("wet(4)", x.wet(4), 0x8FF);
        Check.due("wet(5)", x.wet(5), 0x8FF);
        Check.due("wet(6)", x.wet(6), 0xFFF);
        Check.due("wet(10)", x.wet(10), 0xFFF);
        Check.due("wet(11)", x.wet(11), -3);
        Check.due("wet(-1)", x.wet(-1), -3);
        // the right end of a row isn't side by side with the left end of the next one
        SandHold y = Check.with("shore rows 2 columns 3;sand 0 9;sand 1 9;sand 2 0;sand 3 0;sand 4 9;sand 5 9;");
        Check.due("no way round", y.wet(5), 4);
        SandHold z = Check.with("shore rows 3 columns 2;sand 0 0;sand 1 9;sand 2 9;sand 3 0;sand 4 0;sand 5 9;");
        Check.due("nor back", z.wet(5), 1);
        SandHold s = Check.with("shore rows 5 columns 5;sand 1 9;sand 3 9;sand 5 0;sand 6 9;sand 7 0;sand 8 9;sand 9 0;sand 10 0;"
            + "sand 11 9;sand 12 0;sand 13 9;sand 14 0;sand 15 0;sand 16 9;sand 17 0;sand 18 9;sand 19 0;sand 0 0;sand 2 9;sand 4 9;"
            + "sand 20 0;sand 21 0;sand 22 0;sand 23 9;sand 24 9;");
        Check.due("down and up again", s.wet(1), 1 | 1 << 5 | 1 << 10 | 1 << 15 | 7 << 20 | 1 << 17 | 1 << 12 | 1 << 7);
    }

    public static void main(String[] args) {
        aNewObject();
        feedFillsTheTape();
        feedPutsTheHighestByteFirst();
        shoreReadsSoManyBytes();
        shoreBeginsAnew();
        oneTextBehindAnother();
        readAsFarAsTold();
        faultsOfTokens();
        faultsOfPlaces();
        faultsOfBounds();
        faultsOfTooMany();
        sandAsTold();
        housesAsTold();
        plotsAsTold();
        levelsWithoutALaw();
        levelsByALaw();
        wetCells();
        Check.end("ShoreTest");
    }
}

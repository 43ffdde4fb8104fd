/** The terms of the text: each sentence that names a boundary case, by a test of its own. */
public final class EdgeTextTest {
    private static final String HEAD = "shore rows 2 columns 2;";
    private static final String WIDE = "shore rows 5 columns 5;";

    private static void fault(String text, int kind, int place) {
        SandHold x = new SandHold();
        Check.due("shore of " + text, Check.shore(x, text), -30 - kind);
        Check.due("fault(0) of " + text, x.fault(0), kind);
        Check.due("fault(1) of " + text, x.fault(1), place);
    }

    /** A fault at the place where a mark stands in the text; the mark itself is no part of it. */
    private static void at(int kind, String marked) {
        int place = marked.indexOf('@');
        fault(marked.substring(0, place) + marked.substring(place + 1), kind, place);
    }

    private static SandHold right(String text, int lines) {
        SandHold x = new SandHold();
        Check.due("shore of " + text, Check.shore(x, text), lines);
        Check.due("fault(0) of " + text, x.fault(0), 0);
        Check.due("fault(1) of " + text, x.fault(1), -1);
        return x;
    }

    private static int tide(String law) {
        return Check.with(HEAD + "moon 4;tide:" + law + ";").level(7);
    }

    private static void tellsTrue(String truth) {
        Check.due("truth of " + truth, tide("if " + truth + " then 1 else 2 end"), 1);
    }

    private static void tellsFalse(String truth) {
        Check.due("truth of " + truth, tide("if " + truth + " then 1 else 2 end"), 2);
    }

    private static void nineHundredBytes() {
        Check.says("THE SHORE is a TEXT of at most 900 bytes");
        String full = HEAD + " ".repeat(870) + "moon 7;";
        Check.due("its length", full.length(), 900);
        Check.due("MOON of 900 bytes", right(full, 2).count(4), 7);
        SandHold x = new SandHold();
        Check.feed(x, full);
        Check.due("899 of them", x.shore(899), -32);
        Check.due("the end of 899", x.fault(1), 899);
        String law = HEAD + "tide:437" + "-1".repeat(434) + ";";
        Check.due("its length", law.length(), 900);
        Check.due("a law that fills all", right(law, 2).level(0), 3);
        String lines = "shore rows 1 columns 1;" + "moon 1;".repeat(124) + "gale 00;" + " ";
        Check.due("its length", lines.length(), 900);
        right(lines, 126);
    }

    private static void oneTextBehindAnother() {
        Check.says("THE SHORE is a TEXT of at most 900 bytes");
        SandHold x = new SandHold();
        for (int i = 0; i < 5; i++) {
            Check.due("a law that fills all, again", Check.shore(x, HEAD + "tide:437" + "-1".repeat(434) + ";"), 2);
            Check.due("its level", x.level(0), 3);
            Check.due("eight debts again", Check.shore(x, HEAD + "owes 0 1 1;".repeat(8)), 9);
            Check.due("those ahead are gone", x.balance(1), 8);
            Check.due("six houses again", Check.shore(x, WIDE + houses(6)), 7);
            Check.due("and no seventh", Check.shore(x, WIDE + houses(6) + "house"), -34);
            Check.due("six plots and papers", Check.shore(x, WIDE + "plot 0 minutes 1 worth 1;".repeat(6) + "paper 0 0;".repeat(6)), 13);
        }
        Check.due("two papers behind six", Check.shore(x, HEAD + "paper 0 0;paper 0 1;"), 3);
        Check.due("how many colours", x.colours(0), 2);
        Check.due("the first", x.colours(10), 0);
        Check.due("the second", x.colours(11), 1);
        Check.due("no third", x.colours(12), -2);
        Check.due("both overlap", x.clique(1), 3);
        Check.shore(x, "shore rows 5 columns 1;house 1 owner 0;gale 10;");
        Check.due("one column", x.wet(2), 3);
        Check.shore(x, HEAD + "sand 0 9;sand 1 0;sand 2 0;sand 3 0;");
        Check.due("two columns", x.wet(1), 14);
        Check.due("no house stands", x.count(3), 0);
        Check.due("none is last", x.last(), -1);
        x.build(0, 0);
        Check.shore(x, HEAD + "tide:1;sand 0 1;house 0 owner 0;");
        Check.due("no gale", x.chance(0, 1, 0), 1);
        Check.due("a fault ahead", Check.shore(x, HEAD + "house 1 owner 0;moon 9;tide:5;washes:5;gale 5;sand 1 5;plot 1 minutes 1 worth 1;paper 0 0;owes 0 1 1;?"), -31);
        Check.due("leaves nothing to the next", Check.shore(x, HEAD), 1);
        int[] counts = {2, 2, 0, 0, 0, 0, 2, 0, 0, 0, 0, 1};
        for (int what = 0; what < counts.length; what++) {
            Check.due("count(" + what + ")", x.count(what), counts[what]);
        }
        Check.due("the plain tide", x.level(9), 9);
        Check.due("no washes", x.worn(0, 9), 0);
        Check.due("no debts", x.balance(1), 0);
    }

    private static void withoutAText() {
        Check.says("(without one: 1 row, 1 column, MOON 0, GALE 0)");
        SandHold x = new SandHold();
        Check.due("rows", x.count(0), 1);
        Check.due("columns", x.count(1), 1);
        Check.due("MOON", x.count(4), 0);
        x.raise(0);
        x.build(0, 0);
        Check.due("GALE: above", x.chance(0, 1, 0), 1);
        Check.due("GALE: below", x.chance(0, 1, 1), 1);
        x = right(HEAD, 1);
        Check.due("MOON of a text without moon", x.count(4), 0);
        x.build(2, 0);
        Check.due("GALE of a text without gale", x.chance(0, 1, 1), 1);
    }

    private static void noLineAndMany() {
        Check.says("shore rows N columns N ; { LINE ; }");
        right(HEAD, 1);
        right("  " + HEAD + "  ", 1);
        right(HEAD + "moon 1;", 2);
        right(HEAD + "moon 1;".repeat(90), 91);
        at(2, "@");
        at(2, "shore@");
        at(2, "shore @");
        at(2, "shore rows@");
        at(2, "shore rows 2@");
        at(2, "shore rows 2 columns@");
        at(2, "shore rows 2 columns 2@");
        at(2, "@; shore rows 2 columns 2;");
        at(2, HEAD + "@;");
        at(2, HEAD + "moon 1;@;");
        at(2, "shore @2 rows 2 columns;");
        at(2, "shore rows @rows 2 columns 2;");
        at(2, "shore rows 2 @2 columns 2;");
        at(2, "shore rows 2 columns 2 @2;");
        at(2, "shore rows 2 columns 2 @: moon 1;");
    }

    private static boolean isWord(String token) {
        return token.charAt(0) >= 'a' && token.charAt(0) <= 'z';
    }

    /** A word that is almost the one that can stand there. */
    private static void almost(String ahead, String word, String behind) {
        String rest = word.substring(1);
        String most = word.substring(0, word.length() - 1);
        at(2, ahead + "@" + (char) (word.charAt(0) == 'z' ? 'y' : word.charAt(0) + 1) + rest + " " + behind);
        at(2, ahead + "@" + most + "z " + behind);
        at(2, ahead + "@" + word + "z " + behind);
        at(2, ahead + "@" + most + " " + behind);
    }

    /** Each token of a line once gone with all behind it, once another in its place. */
    private static void shape(String line) {
        String[] tokens = line.split(" ");
        String ahead = HEAD;
        for (int i = 0; i < tokens.length; i++) {
            String behind = "";
            for (int k = i + 1; k < tokens.length; k++) {
                behind += tokens[k] + " ";
            }
            if (i > 0) {
                at(2, ahead + "@");
            }
            at(2, ahead + "@" + (tokens[i].equals(":") ? ";" : ":") + " " + behind);
            at(2, ahead + "@zzz " + behind);
            at(2, ahead + "@columns " + behind);
            at(1, ahead + "@1000 " + behind);
            at(1, ahead + "@? " + behind);
            at(1, ahead + "@A " + behind);
            if (isWord(tokens[i])) {
                almost(ahead, tokens[i], behind);
            }
            ahead += tokens[i] + " ";
        }
        right(ahead, 2);
        at(2, ahead + "@;");
    }

    private static void shapesOfLines() {
        Check.says("LINE: sand N N | house N owner N | plot N minutes N worth N | paper N N | owes N N N | moon N | gale N | tide : SUM | washes : SUM.");
        shape("sand 1 2 ;");
        shape("house 1 owner 2 ;");
        shape("plot 1 minutes 2 worth 3 ;");
        shape("paper 1 2 ;");
        shape("owes 1 2 3 ;");
        shape("moon 1 ;");
        shape("gale 1 ;");
        shape("tide : 1 ;");
        shape("washes : 1 ;");
        shape("tide : ( minute ) + moon * 2 - 1 ;");
        shape("washes : if row = 1 then height else level end ;");
        shape("tide : if not [ 1 = 2 ] and 3 < 4 or 5 > 6 then 1 else 2 end ;");
        at(2, HEAD + "sand 1 2 @3;");
        at(2, HEAD + "house @owner 2;");
        at(2, HEAD + "paper 1 @;");
        at(2, HEAD + "owes 1 2 3 @4;");
        at(2, HEAD + "moon @: 1;");
        at(2, HEAD + "gale @-1;");
        at(2, HEAD + "tide @1;");
    }

    private static void sums() {
        Check.says("SUM: TERM { + TERM | - TERM }; TERM: ATOM { * ATOM };");
        Check.due("one TERM", tide("5"), 5);
        Check.due("from left to right", tide("9-4-3"), 2);
        Check.due("from left to right", tide("9-4+3"), 8);
        Check.due("* ahead of -", tide("9-4*2"), 1);
        Check.due("* ahead of +", tide("1+4*2"), 9);
        Check.due("* from left to right", tide("2*2*2"), 8);
        at(2, HEAD + "tide:@;");
        at(2, HEAD + "tide:@+1;");
        at(2, HEAD + "tide:@-1;");
        at(2, HEAD + "tide:1+@;");
        at(2, HEAD + "tide:1-@;");
        at(2, HEAD + "tide:1*@;");
        at(2, HEAD + "tide:1+@+1;");
        at(2, HEAD + "tide:1*@-1;");
        at(2, HEAD + "tide:1 @1;");
    }

    private static void atoms() {
        Check.says("ATOM: N, ( SUM ), if TRUTH then SUM else SUM end, minute, moon, in washes row, height, level, near too.");
        Check.due("N", tide("007"), 7);
        Check.due("( SUM )", tide("(9-4)*1"), 5);
        Check.due("if", tide("if 1=1 then 3 else 4 end"), 3);
        Check.due("minute", tide("minute"), 7);
        Check.due("moon", tide("moon"), 4);
        at(2, HEAD + "tide:(@);");
        at(2, HEAD + "tide:(1@;");
        at(2, HEAD + "tide:1@);");
        at(2, HEAD + "tide:@[1];");
        at(2, HEAD + "tide:@not 1;");
        at(2, HEAD + "tide:@then 1;");
        at(2, HEAD + "tide:if @then 1 else 2 end;");
        at(2, HEAD + "tide:if 1=1 @1 else 2 end;");
        at(2, HEAD + "tide:if 1=1 then @else 2 end;");
        at(2, HEAD + "tide:if 1=1 then 1 @end;");
        at(2, HEAD + "tide:if 1=1 then 1 else @end;");
        at(2, HEAD + "tide:if 1=1 then 1 else 2@;");
        at(2, HEAD + "tide:if 1=1 then 1 else 2 end @end;");
        right(HEAD + "washes:row+height+level+near+minute+moon;", 2);
        for (String name : new String[] {"row", "height", "level", "near"}) {
            at(2, HEAD + "tide:@" + name + ";");
            at(2, HEAD + "tide:1+(if @" + name + "=1 then 1 else 2 end);");
            at(2, HEAD + "washes:" + name + ";tide:@" + name + ";");
            right(HEAD + "tide:1;washes:" + name + ";", 3);
        }
        for (String name : new String[] {"minutes", "moons", "rows", "ro", "heigh", "levels", "nea", "worth", "owner", "end", "or", "and", "else"}) {
            at(2, HEAD + "washes:@" + name + ";");
        }
    }

    private static void truths() {
        Check.says("TRUTH: BOTH { or BOTH }; BOTH: UNIT { and UNIT }; UNIT: not UNIT, [ TRUTH ], or SUM, one of = < >, SUM.");
        tellsTrue("1=1 or 1=2 and 1=2");
        tellsTrue("1=2 and 1=2 or 1=1");
        tellsFalse("[1=1 or 1=2] and 1=2");
        tellsTrue("1=2 or 1=2 or 1=1");
        tellsFalse("1=1 and 1=1 and 1=2");
        tellsTrue("not 1=2 and 1=1");
        tellsTrue("not 1=2 or 1=1");
        tellsFalse("not [1=2 or 1=1]");
        tellsTrue("not not 1=1");
        tellsTrue("1+1=2");
        tellsTrue("2-1<2*1");
        tellsTrue("0-1<0");
        tellsFalse("1<1");
        tellsFalse("1>1");
        tellsFalse("2<1");
        tellsTrue("2>1");
        tellsFalse("1=2");
        tellsFalse("not 1<2");
        tellsFalse("not 2>1");
        tellsFalse("not 1=1");
        tellsTrue("1<2 and 2>1 and 1=1");
        tellsTrue("not 2<1 and not 1>2 and not 1=2");
        at(2, HEAD + "tide:if 1=1 or @then 1 else 2 end;");
        at(2, HEAD + "tide:if 1=1 and @or 1=1 then 1 else 2 end;");
        at(2, HEAD + "tide:if not @then 1 else 2 end;");
        at(2, HEAD + "tide:if [@] then 1 else 2 end;");
        at(2, HEAD + "tide:if [1=1 @then 1 else 2 end;");
        at(2, HEAD + "tide:if [1@] then 1 else 2 end;");
        at(2, HEAD + "tide:if (1@=1) then 1 else 2 end;");
        at(2, HEAD + "tide:if 1 @then 1 else 2 end;");
        at(2, HEAD + "tide:if 1=1@=1 then 1 else 2 end;");
        at(2, HEAD + "tide:if 1=1@>1 then 1 else 2 end;");
        at(2, HEAD + "tide:if 1<@> 1 then 1 else 2 end;");
        at(2, HEAD + "tide:if 1=1 @not 1=1 then 1 else 2 end;");
        at(2, HEAD + "tide:if 1=@not 1 then 1 else 2 end;");
        at(2, HEAD + "tide:if 1=@[1=1] then 1 else 2 end;");
    }

    private static void withinOneAnother() {
        Check.says("At most six of not [ ( if within one another.");
        Check.due("six (", tide("((((((5))))))"), 5);
        at(4, HEAD + "tide:((((((@(5)))))));");
        Check.due("not within one another", tide("((((((1))))))+((((((1))))))*((((((3))))))"), 4);
        Check.due("if and five not", tide("if not not not not not 1=1 then 1 else 2 end"), 2);
        at(4, HEAD + "tide:if not not not not not @not 1=1 then 1 else 2 end;");
        Check.due("if and five [", tide("if [[[[[1=1]]]]] then 1 else 2 end"), 1);
        at(4, HEAD + "tide:if [[[[[@[1=1]]]]]] then 1 else 2 end;");
        Check.due("if and five (", tide("if (((((1)))))=(((((1))))) then (((((1))))) else (((((2))))) end"), 1);
        at(4, HEAD + "tide:if (((((@(1))))))=1 then 1 else 2 end;");
        at(4, HEAD + "tide:if 1=(((((@(1)))))) then 1 else 2 end;");
        at(4, HEAD + "tide:if 1=1 then (((((@(1)))))) else 2 end;");
        at(4, HEAD + "tide:if 1=1 then 1 else (((((@(1)))))) end;");
        Check.due("not is over its UNIT alone", tide("if not 1=1 or (((((1)))))=1 then 1 else 2 end"), 1);
        Check.due("not is over its UNIT alone", tide("if not 1=1 or not not not not not 1=2 then 1 else 2 end"), 1);
        Check.due("not is over all its UNIT", tide("if not ((((1))))=((((1)))) then 1 else 2 end"), 2);
        at(4, HEAD + "tide:if not 1=((((@(1))))) then 1 else 2 end;");
        at(4, HEAD + "tide:if not ((((@(1)))))=1 then 1 else 2 end;");
        Check.due("one of each and two more", tide("if not [(if not 1=2 then 1 else 2 end)=2] then 3 else 4 end"), 3);
        at(4, HEAD + "tide:if not [(if not @[1=2] then 1 else 2 end)=2] then 3 else 4 end;");
        at(4, HEAD + "tide:if not [(if not @not 1=2 then 1 else 2 end)=2] then 3 else 4 end;");
        at(4, HEAD + "tide:if not [(if not @(1)=2 then 1 else 2 end)=2] then 3 else 4 end;");
        at(4, HEAD + "tide:if not [(if not @if 1=1 then 1 else 2 end=2 then 1 else 2 end)=2] then 3 else 4 end;");
        String end = " then 1 else 2 end";
        String six = "if 1=2 then 1 else ".repeat(6) + "3" + " end".repeat(6);
        Check.due("six if", tide(six), 3);
        at(4, HEAD + "tide:" + "if 1=2 then 1 else ".repeat(6) + "@if 1=1" + end + " end".repeat(6) + ";");
        right(HEAD + "tide:" + six + "+" + six + ";washes:" + six + ";tide:((((((1))))));", 4);
    }

    private static void rowsAndColumns() {
        Check.says("shore: rows, columns, 1 to 5 each;");
        for (int rows = 1; rows <= 5; rows++) {
            for (int columns = 1; columns <= 5; columns++) {
                SandHold x = right("shore rows " + rows + " columns " + columns + ";", 1);
                Check.due("rows", x.count(0), rows);
                Check.due("columns", x.count(1), columns);
            }
        }
        at(3, "shore rows @0 columns 2;");
        at(3, "shore rows @6 columns 2;");
        at(3, "shore rows @999 columns 2;");
        at(3, "shore rows 2 columns @0;");
        at(3, "shore rows 2 columns @6;");
        at(3, "shore rows 2 columns @999;");
    }

    private static void cellsByRows() {
        Check.says("CELLS are numbered row by row from 0 on, row 0 lies by the sea.");
        for (int rows = 1; rows <= 5; rows++) {
            for (int columns = 1; columns <= 5; columns++) {
                String head = "shore rows " + rows + " columns " + columns + ";";
                int cells = rows * columns;
                SandHold x = right(head, 1);
                for (int c = 0; c < cells; c++) {
                    Check.due("row of " + c, x.sand(c), c / columns);
                }
                Check.due("by the sea", x.wet(1), (1 << columns) - 1);
                Check.due("the last CELL", right(head + "sand " + (cells - 1) + " 9;", 2).sand(cells - 1), 9);
                at(3, head + "sand @" + cells + " 9;");
                at(3, head + "house @" + cells + " owner 0;");
                at(3, head + "plot @" + cells + " minutes 1 worth 1;");
                at(3, head + "paper @" + cells + " 0;");
                at(3, head + "paper 0 @" + cells + ";");
                right(head + "paper 0 " + (cells - 1) + ";", 2);
            }
        }
    }

    private static void sandOfCells() {
        Check.says("sand: a CELL, how HIGH, 0 to 9 (without one: as its row's number; a later one of the same CELL strikes).");
        SandHold x = right(WIDE + "sand 0 0;sand 1 9;sand 24 0;sand 23 9;sand 23 1;sand 5 9;sand 5 0;sand 5 3;", 9);
        int[] cells = {0, 1, 2, 5, 6, 22, 23, 24};
        int[] high = {0, 9, 0, 3, 1, 4, 1, 0};
        for (int i = 0; i < cells.length; i++) {
            Check.due("sand of " + cells[i], x.sand(cells[i]), high[i]);
        }
        at(3, WIDE + "sand 0 @10;");
        at(3, WIDE + "sand 24 @999;");
        at(3, WIDE + "sand @25 0;");
        at(3, WIDE + "sand @999 10;");
    }

    private static String houses(int n) {
        StringBuilder text = new StringBuilder();
        for (int i = 0; i < n; i++) {
            text.append("house " + 3 * i + " owner " + i % 5 + ";");
        }
        return text.toString();
    }

    private static void housesOfText() {
        Check.says("house: a CELL where none was told, an OWNER 0 to 4; numbered from 0 on, 6 at most.");
        SandHold x = right(WIDE + houses(6), 7);
        for (int h = 0; h < 6; h++) {
            Check.due("CELL of house " + h, x.house(h, 0), 3 * h);
            Check.due("OWNER of house " + h, x.house(h, 1), h % 5);
            Check.due("house " + h + " stands", x.house(h, 2), 1);
        }
        Check.due("no house 6", x.house(6, 0), -2);
        Check.due("none told", right(WIDE, 1).house(0, 0), -2);
        at(4, WIDE + houses(6) + "@house 1 owner 0;");
        at(4, WIDE + houses(6) + "@house 0 owner 0;");
        at(4, WIDE + houses(6) + "@house");
        at(4, WIDE + houses(6) + "@house 99 owner 9;");
        at(3, WIDE + houses(5) + "house @0 owner 0;");
        at(3, WIDE + houses(5) + "house @12 owner 0;");
        at(3, WIDE + "house 7 owner 0;house @7 owner 1;");
        at(3, WIDE + "house 24 owner 0;house @24 owner 0;");
        at(3, WIDE + "house 24 owner @5;");
        at(3, WIDE + "house @25 owner 4;");
        right(WIDE + "house 24 owner 4;house 23 owner 0;", 3);
        right("shore rows 2 columns 3;house 0 owner 0;house 1 owner 0;house 2 owner 0;house 3 owner 0;house 4 owner 0;house 5 owner 0;", 7);
    }

    private static void plotsOfText() {
        Check.says("plot: a CELL, how many MINUTES it takes, 1 to 9, what it is worth, 0 to 9; numbered from 0 on, 6 at most.");
        String one = "plot 0 minutes 1 worth 0;";
        SandHold x = right(WIDE + "house 24 owner 0;plot 24 minutes 9 worth 9;" + one.repeat(4) + "plot 24 minutes 1 worth 9;", 8);
        Check.due("MINUTES of plot 0", x.plot(0, 1), 9);
        Check.due("worth of plot 0", x.plot(0, 2), 9);
        Check.due("MINUTES of plot 4", x.plot(4, 1), 1);
        Check.due("worth of plot 4", x.plot(4, 2), 0);
        Check.due("CELL of plot 5", x.plot(5, 0), 24);
        Check.due("no plot 6", x.plot(6, 0), -2);
        at(4, WIDE + one.repeat(6) + "@plot 0 minutes 1 worth 0;");
        at(4, WIDE + one.repeat(6) + "@plot");
        at(3, WIDE + "plot @25 minutes 1 worth 0;");
        at(3, WIDE + "plot 24 minutes @0 worth 0;");
        at(3, WIDE + "plot 24 minutes @10 worth 0;");
        at(3, WIDE + "plot 24 minutes 1 worth @10;");
    }

    private static void papersOfText() {
        Check.says("paper: two CELLS, corners of all it is over; numbered from 0 on, 6 at most.");
        SandHold x = right(WIDE + "paper 0 24;paper 24 0;paper 4 20;paper 12 12;paper 24 23;paper 19 4;", 7);
        Check.due("over 0", x.papers(0), 7);
        Check.due("over 12", x.papers(12), 15);
        Check.due("over 24", x.papers(24), 7 | 16);
        Check.due("over 23", x.papers(23), 7 | 16);
        Check.due("over 22", x.papers(22), 7);
        Check.due("over 19", x.papers(19), 7 | 32);
        Check.due("over 4", x.papers(4), 7 | 32);
        Check.due("over 3", x.papers(3), 7);
        at(4, WIDE + "paper 0 0;".repeat(6) + "@paper 0 0;");
        at(4, WIDE + "paper 0 0;".repeat(6) + "@paper");
        at(3, WIDE + "paper @25 0;");
        at(3, WIDE + "paper 24 @25;");
    }

    private static void owesOfText() {
        Check.says("owes: who, whom (OWNERS, not one), how much, 0 to 99 (8 at most).");
        SandHold x = right(WIDE + "owes 0 4 99;owes 4 0 0;" + "owes 1 2 1;".repeat(6), 9);
        Check.due("who", x.balance(0), -99);
        Check.due("whom", x.balance(4), 99);
        Check.due("six times", x.balance(1), -6);
        at(4, WIDE + "owes 1 2 1;".repeat(8) + "@owes 1 2 1;");
        at(4, WIDE + "owes 1 2 1;".repeat(8) + "@owes");
        at(3, WIDE + "owes @5 0 1;");
        at(3, WIDE + "owes 0 @5 1;");
        at(3, WIDE + "owes 4 3 @100;");
        for (int o = 0; o < 5; o++) {
            at(3, WIDE + "owes " + o + " @" + o + " 1;");
        }
    }

    private static void moonAndGaleOfText() {
        Check.says("moon 0 to 9, gale 0 to 10 (0); later ones of moon, gale, tide, washes strike.");
        Check.due("moon 0", right(HEAD + "moon 0;", 2).count(4), 0);
        Check.due("moon 9", right(HEAD + "moon 9;", 2).count(4), 9);
        at(3, HEAD + "moon @10;");
        String by = "shore rows 1 columns 1;sand 0 1;tide:1;house 0 owner 0;";
        Check.due("no gale", right(by, 4).chance(0, 1, 0), 1);
        Check.due("gale 0", right(by + "gale 0;", 5).chance(0, 1, 0), 1);
        Check.due("gale 1", right(by + "gale 1;", 5).chance(0, 1, 0), 9);
        Check.due("gale 9", right(by + "gale 9;", 5).chance(0, 1, 0), 1);
        Check.due("gale 9", right(by + "gale 9;", 5).chance(0, 1, 1), 10);
        Check.due("gale 10", right(by + "gale 10;", 5).chance(0, 1, 0), 0);
        at(3, HEAD + "gale @11;");
        Check.due("a later moon", right(HEAD + "moon 9;moon 3;moon 0;", 4).count(4), 0);
        Check.due("a later gale", right(by + "gale 10;gale 0;", 6).chance(0, 1, 0), 1);
        Check.due("a later tide", right(HEAD + "tide:9;tide:0;", 3).level(1), 0);
        SandHold x = right(HEAD + "tide:1;washes:9;washes:4;", 4);
        x.minutes(1);
        Check.due("a later washes", x.sand(0), 4);
        Check.due("the last of very many", right(HEAD + "tide:1;".repeat(120) + "tide:7;", 122).level(1), 7);
        SandHold y = right(HEAD + "tide:5;".repeat(121) + "washes:4;", 123);
        y.minutes(1);
        Check.due("washes behind very many", y.sand(0), 4);
    }

    private static void everyByte() {
        Check.says("TOKENS, as long as they go on, between them blanks (10, 32): words (small letters), N (1 to 3 digits), the signs ; : + - * ( ) [ ] = < >.");
        for (int b = 0; b < 256; b++) {
            boolean blank = b == 10 || b == 32;
            boolean begins = b >= 'a' && b <= 'z' || b >= '0' && b <= '9' || b < 128 && ";:+-*()[]=<>".indexOf(b) >= 0;
            if (blank) {
                right(HEAD + (char) b, 1);
                right(HEAD + "moon" + (char) b + "1;", 2);
            } else {
                fault(HEAD + (char) b, begins ? 2 : 1, 23);
                boolean goesOn = b >= '0' && b <= '9' || b == ';';
                if (!goesOn) {
                    fault(HEAD + "moon 1" + (char) b, begins ? 2 : 1, 29);
                }
            }
        }
    }

    private static void tokensGoOn() {
        Check.says("TOKENS, as long as they go on");
        right("shore rows2columns2;sand0 1;house1owner2;", 3);
        at(2, "@shorerows 2 columns 2;");
        at(2, HEAD + "@moonmoon 1;");
        at(2, HEAD + "moon @");
        Check.due("12 is one N", Check.with("shore rows 4 columns 4;sand 12 9;").sand(12), 9);
        at(2, HEAD + "sand 1@;");
        Check.due("N of one, two, three digits", Check.with(HEAD + "moon 9;moon 08;moon 007;").count(4), 7);
        Check.due("999", Check.with(HEAD + "tide:999-990;").level(0), 9);
    }

    private static void faultOne() {
        Check.says("1 no TOKEN begins so (4 digits and more: at their first).");
        at(1, HEAD + "moon @0001;");
        at(1, HEAD + "moon @1234;");
        at(1, HEAD + "moon @00000000000000000000000000;");
        at(1, HEAD + "moon @1000x");
        at(1, HEAD + "tide:1+@9999;");
        at(1, HEAD + "@1000");
        at(1, HEAD + "@, moon 1;");
        at(1, "@\tshore rows 1 columns 1;");
        at(1, "shore@_rows 1 columns 1;");
        at(1, "shore rows 1 columns 1;moon 1;@\r");
        fault(HEAD + "moon 9999", 1, 28);
        SandHold x = new SandHold();
        Check.feed(x, HEAD + "moon 1000;");
        Check.due("three digits of them are read", x.shore(31), -33);
    }

    private static void faultTwo() {
        Check.says("2 it can't stand there (the end: the text's length; shore must be told first, and once; row, height, level, near in tide).");
        at(2, "@");
        at(2, "   @");
        at(2, " \n\n @");
        at(2, HEAD + "moon 1  \n@");
        at(2, HEAD + "moon@");
        at(2, "@moon 1;" + HEAD);
        at(2, "@tide:1;");
        at(2, HEAD + "@shore rows 2 columns 2;");
        at(2, HEAD + "moon 1;@shore");
        at(2, "shore @shore rows 2 columns 2;");
        for (String name : new String[] {"row", "height", "level", "near"}) {
            at(2, HEAD + "tide:(1+@" + name + ");");
        }
    }

    private static void faultThree() {
        Check.says("3 an N out of its bounds (a CELL with a house, one and the same OWNER).");
        at(3, HEAD + "sand @4 1;");
        at(3, HEAD + "sand 3 @10;");
        at(3, HEAD + "house 1 owner 1;house @1 owner 1;");
        at(3, HEAD + "owes 2 @2 2;");
        at(3, HEAD + "moon @999;");
        right(HEAD + "house 1 owner 1;sand 1 1;plot 1 minutes 1 worth 1;paper 1 1;", 5);
        right(HEAD + "house 1 owner 1;house 2 owner 1;owes 1 2 1;owes 2 1 1;", 5);
    }

    private static void faultFour() {
        Check.says("4 the first TOKEN of a 7th house, plot, paper, of a 9th owes; a seventh of not [ ( if.");
        String six = "plot 0 minutes 1 worth 1;".repeat(6) + "paper 0 0;".repeat(6) + "owes 0 1 1;".repeat(8) + houses(6);
        right(WIDE + six, 27);
        at(4, WIDE + six + "moon 1;@house 1 owner 1;");
        at(4, WIDE + six + "moon 1;@plot 1 minutes 1 worth 1;");
        at(4, WIDE + six + "moon 1;@paper 1 1;");
        at(4, WIDE + six + "moon 1;@owes 1 2 1;");
        at(4, WIDE + six + "tide:((((((@(");
        right(WIDE + six + "sand 0 1;sand 0 2;moon 1;gale 1;tide:1;washes:1;", 33);
    }

    private static void theFirstAlongTheText() {
        Check.says("FAULTS, the first along the text, of one TOKEN the least kind:");
        at(3, HEAD + "moon @10 ? 1000 zzz");
        at(2, HEAD + "moon @zzz 10 ? 1000");
        at(1, HEAD + "moon @? 10");
        at(4, WIDE + houses(6) + "@house 99 ?");
        // of one TOKEN: 1 ahead of 2, 2 ahead of 4
        at(1, HEAD + "@1000;");
        at(1, HEAD + "tide:((((((@1000");
        at(2, HEAD + "tide:((((((1@(");
        at(2, HEAD + "tide:((((((@not");
        at(2, HEAD + "tide:((((((@[");
        at(2, HEAD + "tide:((((((1 @if");
        at(2, WIDE + houses(6) + "sand 0 @house");
        at(2, WIDE + "paper 0 0;".repeat(6) + "moon 1 @paper 0 0;");
        at(2, "shore rows 2 columns 2 @6;");
    }

    public static void main(String[] args) {
        nineHundredBytes();
        oneTextBehindAnother();
        withoutAText();
        noLineAndMany();
        shapesOfLines();
        sums();
        atoms();
        truths();
        withinOneAnother();
        rowsAndColumns();
        cellsByRows();
        sandOfCells();
        housesOfText();
        plotsOfText();
        papersOfText();
        owesOfText();
        moonAndGaleOfText();
        everyByte();
        tokensGoOn();
        faultOne();
        faultTwo();
        faultThree();
        faultFour();
        theFirstAlongTheText();
        Check.end("EdgeTextTest");
    }
}

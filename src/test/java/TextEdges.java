/** The sentences of "Terms": what a text tells, its tokens, its rules and its faults. */
final class TextEdges {
    private TextEdges() { }

    static void run() {
        Edge.of("Terms");
        table();
        figuresAndSeats();
        light();
        tokens();
        lines();
        grammarOfRules();
        whatRulesGive();
        values();
        faultsInOrder();
        faultOne();
        faultTwo();
        faultsThreeToFive();
    }

    private static void table() {
        Edge.says("THE TABLE is W by H CELLS (2 to 6 each;");
        size("table 2 2;", 2, 2);
        size("table 6 6;", 6, 6);
        size("table 2 6;", 2, 6);
        size("table 6 2;", 6, 2);
        for (String wrong : new String[] {"0", "1", "7", "9999"}) {
            Edge.fault(2, "table @" + wrong + " 2;");
            Edge.fault(2, "table 2 @" + wrong + ";");
        }
        Edge.says("5 by 4 without):");
        size("", 5, 4);
        size("wall 0;", 5, 4);
        TownTable again = Edge.town("table 6 6;");
        Edge.is("without behind another", Check.town(again, "wall 19;"), 0);
        Edge.is("W", again.count(2), 5);
        Edge.is("H", again.count(3), 4);
        Edge.says("x from the left, y from the top (0 on); a CELL's number is W by y and x.");
        Edge.then(Edge.town("table 6 2;figure 0 2;figure 0 3;figure 5 3;figure 11 4;figure 11 1;"), 1, 1, 6, 11, 10, 5);
        Edge.then(Edge.town("table 2 6;figure 0 2;figure 0 3;figure 1 3;figure 11 4;figure 11 1;"), 1, 1, 2, 3, 10, 9);
        Edge.says("WALLS are CELLS to which nobody goes.");
        TownTable round = Edge.town("table 3 3;wall 4;figure 1 3;figure 3 2;figure 5 4;figure 7 1;");
        Edge.then(round, 1, 1, 3, 5, 7);
        Edge.then(round, 100, 1, 3, 5, 7);
        Edge.is("never", round.comes(0, 4), Edge.NONE);
        Edge.is("nor by fingers", round.lift(0, 4), Edge.NONE);
    }

    private static void size(String text, int width, int height) {
        TownTable x = Edge.town(text);
        Edge.is("W of " + text, x.count(2), width);
        Edge.is("H of " + text, x.count(3), height);
        Edge.call("the last cell of " + text, () -> x.cell(width * height - 1, 1), 0);
        Edge.call("none behind it in " + text, () -> x.cell(width * height, 1), Edge.NSE);
    }

    private static void figuresAndSeats() {
        Edge.says("FIGURES 0, 1 .. (at most 8):");
        TownTable eight = Edge.town("figure 7 0;figure 6 0;figure 5 0;figure 4 0;figure 3 0;figure 2 0;figure 1 0;"
                + "figure 0 0;");
        Edge.is("eight", eight.count(0), 8);
        Edge.figures(eight, 0, 7, 6, 5, 4, 3, 2, 1, 0);
        Edge.call("no ninth", () -> eight.figure(8, 0), Edge.NSE);
        Edge.fault(2, "figure 0 0;".repeat(8) + "@figure 0 0;");
        TownTable nobody = Edge.town("");
        Edge.is("nobody", nobody.count(0), 0);
        Edge.call("no first", () -> nobody.figure(0, 0), Edge.NSE);
        Edge.says("a CELL, a WAY: 1 to 8 STEPS");
        Edge.is("one", Edge.town("figure 19 4;").figure(0, 1), 1);
        Edge.is("its cell", Edge.town("figure 19 4;").figure(0, 0), 19);
        Edge.is("eight", Edge.town("figure 0 2 2 2 2 4 4 4 4;").figure(0, 1), 8);
        Edge.fault(1, "figure 0@;");
        Edge.fault(2, "figure 0 2 2 2 2 4 4 4 4 @0;");
        Edge.says("(0 stays, 1 up, 2 right, 3 down, 4 left).");
        Edge.then(Edge.town("table 3 3;figure 4 0;figure 4 1;figure 4 2;figure 4 3;figure 4 4;"), 1, 4, 1, 5, 7, 3);
        Edge.fault(2, "figure 0 @5;");
        Edge.says("SEATS 0, 1 .. (at most 8): CELLS.");
        TownTable seats = Edge.town("seat 3;seat 0;seat 3;seat 1;seat 1;seat 1;seat 1;seat 19;");
        Edge.is("eight", seats.count(1), 8);
        Edge.is("at 3", seats.cell(3, 2), 5);
        Edge.is("at 0", seats.cell(0, 2), 2);
        Edge.is("at 1", seats.cell(1, 2), 120);
        Edge.is("at the last cell", seats.cell(19, 2), 128);
        Edge.is("no seats", Edge.town("").count(1), 0);
        Edge.fault(2, "seat 0;".repeat(8) + "@seat 0;");
    }

    private static void light() {
        Edge.says("LIGHT: 1 to 8 numbers (0 to 9),");
        Edge.is("the least", Edge.town("light 0;").count(5), 0);
        Edge.is("the most", Edge.town("light 9;").count(5), 9);
        Edge.fine("light 0 1 2 3 4 5 6 7;");
        Edge.fault(1, "light@;");
        Edge.fault(2, "light 0 1 2 3 4 5 6 7 @8;");
        Edge.fault(2, "light @10;");
        Edge.fault(2, "light 9 @10;");
        Edge.says("that of an HOUR by HOUR MOD how many");
        lights("light 1;", 1, 1, 1);
        lights("light 1 2 3;", 1, 2, 3, 1, 2, 3, 1);
        lights("light 9 8 7 6 5 4 3 2;", 9, 8, 7, 6, 5, 4, 3, 2, 9, 8);
        TownTable late = Edge.town("light 0 1 2 3 4 5 6;");
        Edge.until(late, 9999);
        Edge.is("9999 MOD 7", late.count(5), 9999 % 7);
        Edge.says("(always 5 without).");
        lights("", 5, 5, 5);
        TownTable without = Edge.town("figure 0 0;");
        Edge.until(without, 9999);
        Edge.is("in the last hour", without.count(5), 5);
        TownTable behind = Edge.town("light 1 1;");
        Check.town(behind, "figure 0 0;");
        Edge.is("without behind another town", behind.count(5), 5);
        Edge.says("It is DULL, if LIGHT of the HOUR is below a number (0 to 9;");
        dulls("light 4 5 6;dull 5;", 1, 0, 0, 1);
        dulls("light 0;dull 0;", 0, 0);
        dulls("light 0 1;dull 1;", 1, 0, 1);
        dulls("light 8 9;dull 9;", 1, 0, 1);
        dulls("dull 5;", 0, 0);
        dulls("dull 6;", 1, 1);
        Edge.fault(2, "dull @10;");
        Edge.says("3 without).");
        dulls("light 2 3 4;", 1, 0, 0, 1);
        TownTable told = Edge.town("dull 9;");
        Check.town(told, "light 3;");
        Edge.is("without behind another town", told.count(6), 0);
        Edge.says("Rules: GOES, HURTS.");
        TownTable both = Edge.town("figure 0 2;hurts 3;goes hour=1;");
        Edge.then(both, 1, 0);
        Edge.then(both, 2, 1);
        both.stop(0, 1);
        Edge.is("hurts", both.then(0, 1, 1), 3);
    }

    private static void lights(String text, int... want) {
        TownTable x = Edge.town(text);
        for (int hour = 0; hour < want.length; hour++) {
            Edge.is("light of hour " + hour + " by " + text, x.count(5), want[hour]);
            x.hours(1);
        }
    }

    private static void dulls(String text, int... want) {
        TownTable x = Edge.town(text);
        for (int hour = 0; hour < want.length; hour++) {
            Edge.is("dull in hour " + hour + " by " + text, x.count(6), want[hour]);
            x.hours(1);
        }
    }

    private static void tokens() {
        Edge.says("A TEXT of at most 700 bytes tells it.");
        String full = " ".repeat(689) + "figure 7 0;";
        TownTable x = Edge.town(full);
        Edge.is("told by the last bytes of 700", x.figure(0, 0), 7);
        Check.tape(x, full);
        Edge.is("the tape is full", x.feed(0, 0, 0, 0, 0), Edge.NONE);
        Edge.is("without the last byte", x.town(699), 1);
        Edge.is("it ends too soon", x.fault(), 699);
        Edge.fine("");
        Edge.says("TOKENS: words (a .. z, the longest row), NUMBERS (1 to 4 digits),");
        Edge.fault(1, "@walls 0;");
        Edge.fault(1, "@wal l 0;");
        Edge.fault(1, "@az;");
        Edge.fault(3, "goes @soret;");
        Edge.fault(3, "goes @notsore;");
        Edge.fault(3, "goes @a;");
        Edge.fault(3, "goes @z;");
        Edge.fault(3, "goes @xore;");
        Edge.fault(3, "goes @sorz;");
        Edge.fault(1, "@xall 0;");
        Edge.fault(1, "@walz 0;");
        Edge.fine("wall0;seat1;figure2 3;");
        Edge.is("four digits", Edge.town("wall 0007;").cell(7, 0), 1);
        Edge.fine("goes 9999;");
        Edge.fault(2, "wall @00007;");
        Edge.fault(1, "wall 1 @2;");
        Edge.says("signs ; ( ) + - * / < = ;");
        everyByteInARule();
        Edge.says("blanks (32, 10) between them count for nothing.");
        Edge.fine(" \n table\n\n2  2 \n; wall \n 3\n;\n ");
        Edge.fine("goes\n(1+ 2 -\n3)* 4 /5<1\n;");
        Edge.fine("   \n\n");
        for (char none : new char[] {0, 9, 11, 12, 13, 160, 133, 255}) {
            Edge.fault(1, "@" + none + "wall 0;");
            Edge.fault(1, "wall@" + none + "0;");
            Edge.fault(1, "wall 0;@" + none);
        }
        Edge.says("In quotes is what stands there, [ ] perhaps, * any number of times, | one of some.");
        Edge.fault(1, "@'wall' 0;");
        Edge.fault(1, "@[table 2 2;]");
        Edge.fault(1, "figure 0 0@* ;");
        Edge.fault(1, "goes 1@|2;");
    }

    /** Between two numbers of a rule: six signs join them, a digit makes one of them, nothing else can stand there. */
    private static void everyByteInARule() {
        for (char c = 0; c < 256; c++) {
            String text = "goes 1" + c + "1;";
            if ("+-*/<=".indexOf(c) >= 0 || c >= '0' && c <= '9') {
                Edge.fine(text);
            } else {
                boolean passed = c == ' ' || c == '\n' || c == ';';
                TownTable x = new TownTable();
                Edge.is("byte " + (int) c, Check.town(x, text), 1);
                Edge.is("the place of byte " + (int) c, x.fault(), passed ? 7 : 6);
            }
        }
        Edge.fine("goes (1);");
    }

    private static void lines() {
        Edge.says("TOWN: ['table' W H ';'] LINE*.");
        Edge.fine("");
        Edge.fine("table 2 2;");
        Edge.fine("seat 0;");
        Edge.fine("table 2 2;seat 0;seat 1;");
        Edge.fault(1, "table@;");
        Edge.fault(1, "table 2@;");
        Edge.fault(1, "table 2 2 @2;");
        Edge.fault(1, "table 2 2@");
        Edge.fault(1, "table 2 2;@;");
        Edge.says("LINE: ('wall' CELL | 'figure' CELL STEP STEP* | 'seat' CELL | 'light' LIGHT LIGHT* | "
                + "'dull' NUMBER | ('goes' | 'hurts') EXPR) ';',");
        for (String line : new String[] {"wall 1", "figure 1 0", "figure 1 0 1 2", "seat 1", "light 1", "light 1 2",
            "dull 1", "goes 1", "hurts 1"}) {
            Edge.fine(line + ";");
            Edge.fault(1, line + "@");
            Edge.fault(1, line + " @wall 0;");
            Edge.fault(1, line.substring(0, line.indexOf(' ')) + "@;");
            Edge.fault(1, line.substring(0, line.indexOf(' ')) + "@");
        }
        Edge.fault(1, "wall 1 @2;");
        Edge.fault(1, "seat 1 @2;");
        Edge.fault(1, "dull 1 @2;");
        Edge.fault(1, "goes 1 @2;");
        Edge.fault(1, "@;");
        Edge.fault(1, "@7;");
        Edge.says("all in capitals but EXPR being NUMBERS.");
        for (String other : new String[] {"x", "sore", "wall", "(0)", "-1", "+1", "=", "%"}) {
            Edge.fault(1, "table @" + other + " 2;");
            Edge.fault(1, "table 2 @" + other + ";");
            Edge.fault(1, "wall @" + other + ";");
            Edge.fault(1, "figure @" + other + " 0;");
            Edge.fault(1, "figure 0 @" + other + ";");
            Edge.fault(1, "figure 0 0 @" + other + ";");
            Edge.fault(1, "seat @" + other + ";");
            Edge.fault(1, "light @" + other + ";");
            Edge.fault(1, "light 0 @" + other + ";");
            Edge.fault(1, "dull @" + other + ";");
        }
    }

    /** What a rule gives, told by one who is held once in company: sore, if it is this, and not, if one more. */
    private static void gives(String expr, String value) {
        String town = "figure 0 2;figure 0 0;light 7;hurts (" + expr + ")=(" + value;
        TownTable x = Edge.town(town + ");");
        x.stop(0, 1);
        Edge.is(expr + " gives " + value, x.then(0, 1, 1), 1);
        TownTable y = Edge.town(town + "+1);");
        y.stop(0, 1);
        Edge.is(expr + " gives no more than " + value, y.then(0, 1, 1), 0);
    }

    private static void grammarOfRules() {
        Edge.says("EXPR: AND ('or' AND)*.");
        gives("0 or 0 or 3", "1");
        gives("1 or 0 and 0", "1");
        gives("(1 or 0) and 0", "0");
        Edge.fault(1, "goes 1 or@;");
        Edge.fault(1, "goes @;");
        Edge.says("AND: NOT ('and' NOT)*.");
        gives("2 and 3 and 4", "1");
        gives("not 0 and not 0", "1");
        gives("not 0 and 0", "0");
        Edge.fault(1, "goes 1 and@;");
        Edge.says("NOT: 'not' NOT | SUM [('<' | '=') SUM].");
        gives("not not 7", "1");
        gives("not 1=2", "1");
        gives("not 2<1", "1");
        gives("3+4=7", "1");
        gives("7=3+4", "1");
        gives("2*4<3*3", "1");
        Edge.fault(1, "goes 1<2@<3;");
        Edge.fault(1, "goes 1=1@=1;");
        Edge.fault(1, "goes not 1<2@=1;");
        Edge.fine("goes (1<2)=1;");
        Edge.fine("goes 1<2 and 2<3 or 3=4;");
        Edge.fault(1, "goes not@;");
        Edge.fault(1, "goes 1<@;");
        Edge.says("SUM: PRODUCT (('+' | '-') PRODUCT)*.");
        gives("2+3*4", "14");
        gives("9-2*3-1", "2");
        Edge.fault(1, "goes @+1;");
        Edge.fault(1, "goes @-1;");
        Edge.fault(1, "goes 1+@;");
        Edge.says("PRODUCT: PART (('*' | '/') PART)*.");
        gives("3*4/5", "2");
        gives("(1+2)*(3+4)", "21");
        Edge.fault(1, "goes 2*@-1;");
        Edge.fault(1, "goes 2/@;");
        Edge.says("PART: NUMBER | VALUE | '(' EXPR ')'.");
        gives("(5)", "5");
        gives("(1 or 0)+(1 and 1)+(not 0)", "3");
        Edge.fault(1, "goes (@);");
        Edge.fault(1, "goes (1@;");
        Edge.fault(1, "goes (1)@);");
        Edge.fault(1, "goes 1@(2);");
        Edge.fault(1, "goes 1 @sore;");
    }

    private static void whatRulesGive() {
        Edge.says("From the left;");
        gives("9-4-3", "2");
        gives("9-4+3", "8");
        gives("80/8/2", "5");
        gives("7/2*2", "6");
        gives("7*2/2", "7");
        Edge.says("ints that wrap,");
        gives("4096*4096*256", "0");
        gives("4096*4096*128-1", "2147*1000*1000+4836*100+47");
        gives("4096*4096*128", "0-4096*4096*127-4096*4096");
        gives("0-4096*4096*128-1", "2147*1000*1000+4836*100+47");
        gives("(4096*4096*128)/(0-1)", "4096*4096*128");
        gives("(4096*4096*128)<0", "1");
        Edge.says("/ cut down to 0,");
        gives("7/2", "3");
        gives("1/2", "0");
        gives("(0-7)/2", "0-3");
        gives("7/(0-2)", "0-3");
        gives("(0-7)/(0-2)", "3");
        gives("(0-1)/2", "0");
        Edge.says("by 0 gives 0;");
        gives("7/0", "0");
        gives("(0-7)/0", "0");
        gives("0/0", "0");
        gives("5+7/(3-3)", "5");
        gives("(4096*4096*128)/0", "0");
        Edge.says("tests, not, and, or are 1 or 0 (what isn't 0 holds).");
        gives("3<4", "1");
        gives("4<4", "0");
        gives("4=4", "1");
        gives("4=5", "0");
        gives("not 9", "0");
        gives("not 0", "1");
        gives("not (0-9)", "0");
        gives("9 and 8", "1");
        gives("(0-1) and (0-2)", "1");
        gives("9 and 0", "0");
        gives("0 or 9", "1");
        gives("0-1 or 0", "1");
        gives("0 or 0", "0");
        gives("4096*4096*128 and 1", "1");
    }

    private static void values() {
        Edge.says("VALUES of a FIGURE: 'sore',");
        TownTable sore = Edge.town("figure 0 2;hurts 1+sore;");
        sore.stop(0, 3);
        Edge.is("none at first", sore.then(0, 1, 1), 1);
        Edge.is("as it was", sore.then(0, 3, 1), 7);
        Edge.says("'light' (of that HOUR),");
        TownTable light = Edge.town("figure 0 0;light 3 4 5;hurts light;");
        light.stop(0, 4);
        Edge.is("3, 4, 5, 3", light.then(0, 4, 1), 15);
        Edge.then(Edge.town("table 6 2;figure 0 2;goes light=5;"), 3, 3);
        Edge.says("'with' (how many others are at its CELL),");
        Edge.is("none", heldIn("figure 0 0;hurts with+1;"), 1);
        Edge.is("one", heldIn("figure 0 0;figure 0 0;figure 1 0;hurts with+1;"), 2);
        Edge.is("seven", heldIn("figure 0 0;".repeat(8) + "hurts with+1;"), 8);
        Edge.says("'hour',");
        TownTable hour = Edge.town("figure 0 0;hurts hour;");
        hour.stop(0, 4);
        Edge.is("0, 1, 2, 3", hour.then(0, 4, 1), 6);
        TownTable last = Edge.town("figure 0 2;goes hour=9999;");
        Edge.until(last, 9999);
        Edge.then(last, 0, 0);
        Edge.then(last, 1, 1);
        Edge.then(last, 2, 1);
        Edge.says("of GOES also 'step' (the STEP that is next),");
        Edge.then(Edge.town("table 3 3;figure 4 1 2 3 4;goes step=3;"), 4, 7);
        Edge.then(Edge.town("table 3 3;figure 4 2 0;goes step<1;"), 4, 4);
        Edge.fault(3, "hurts @step;");
        Edge.says("of HURTS also 'held' (for how many HOURS it is HELD still).");
        TownTable held = Edge.town("figure 0 0;hurts held;");
        held.stop(0, 3);
        Edge.is("three", held.then(0, 1, 1), 3);
        Edge.is("three, two, one", held.then(0, 3, 1), 6);
        TownTable nine = Edge.town("figure 0 0;hurts held;");
        nine.stop(0, 9);
        Edge.is("nine", nine.then(0, 1, 1), 9);
        Edge.fault(3, "goes @held;");
    }

    private static int heldIn(String text) {
        TownTable x = Edge.town(text);
        x.stop(0, 1);
        return x.then(0, 1, 1);
    }

    private static void faultsInOrder() {
        Edge.says("FAULTS, the first along the text, at a TOKEN's first byte,");
        Edge.fault(3, "wall @20;wall x;table 1 1;");
        Edge.fault(5, "dull 1;@dull 10;wall x;");
        Edge.fault(4, "wall 0;wall   @0000;wall 99999;");
        Edge.fault(1, "wall   @abc;wall 20;");
        Edge.fault(2, "figure 0    @12345;x");
        Edge.fault(3, "goes   @unknown;goes 1;");
        Edge.says("of one TOKEN the least:");
        Edge.fault(2, "wall @99999;");
        Edge.fault(2, "wall 0;wall @00000;");
        Edge.fault(2, "seat 0;wall @00000;");
        Edge.fault(2, "goes ((((((@unknown");
        Edge.fault(2, "figure 0 0 0 0 0 0 0 0 0 @5;");
        Edge.fault(1, "goes 1 @99999;");
        Edge.fault(1, "wall 0 @99999;");
        Edge.fault(1, "@99999;");
        Edge.fault(1, "goes 1 @unknown;");
    }

    private static void faultOne() {
        Edge.says("1 a TOKEN that can't stand there, or is none (the text's length where it ends too soon;");
        Edge.fault(1, "@wally;");
        Edge.fault(1, "wall 0@!;");
        Edge.fault(1, "wall@");
        Edge.fault(1, "wall   @");
        Edge.fault(1, "wall 0\n@");
        Edge.fault(1, "figure@");
        Edge.fault(1, "figure 0 @");
        Edge.fault(1, "goes @");
        Edge.fault(1, "goes 1@");
        Edge.fault(1, "goes (1@");
        Edge.fault(1, "goes not @");
        Edge.fault(1, "goes 1+@");
        Edge.fault(1, "goes 1" + "+1".repeat(347) + "@");
        Edge.fault(1, "goes @*;");
        Edge.fault(1, "goes @;");
        Edge.fault(1, "goes ((((((@");
        Edge.fault(1, "goes ((((((@)");
        Edge.fault(1, "goes ((((((@;");
        Edge.fault(1, "goes ((((((@%");
        Edge.says("'table' but at the beginning);");
        Edge.fault(1, "table 2 2;@table 2 2;");
        Edge.fault(1, "wall 0;@table 2 2;");
        Edge.fault(1, "table @table 2;");
        Edge.fault(1, "wall @table;");
        Edge.fault(1, "goes 1 @table 2 2;");
        Edge.fine("   table 2 2;");
    }

    private static void faultTwo() {
        Edge.says("2 one that can, but is too much: a NUMBER of 5 digits or more,");
        for (String number : new String[] {"00000", "00002", "12345", "4294967298", "18446744073709551618",
            "9".repeat(600)}) {
            Edge.fault(2, "table @" + number + " 2;");
            Edge.fault(2, "table 2 @" + number + ";");
            Edge.fault(2, "wall @" + number + ";");
            Edge.fault(2, "figure @" + number + " 0;");
            Edge.fault(2, "figure 0 @" + number + ";");
            Edge.fault(2, "seat @" + number + ";");
            Edge.fault(2, "light @" + number + ";");
            Edge.fault(2, "light 1 @" + number + ";");
            Edge.fault(2, "dull @" + number + ";");
            Edge.fault(2, "goes @" + number + ";");
            Edge.fault(2, "hurts 1+(@" + number + ");");
        }
        Edge.says("or (not in an EXPR) not as told,");
        Edge.fault(2, "table @1 2;");
        Edge.fault(2, "table 2 @7;");
        Edge.fault(2, "figure 0 @5;");
        Edge.fault(2, "figure 0 4 @9999;");
        Edge.fault(2, "light @10;");
        Edge.fault(2, "dull @10;");
        Edge.fine("goes 10;hurts 9999;");
        Edge.says("the first TOKEN of the 9th FIGURE, the 9th SEAT, the 9th STEP, the 9th LIGHT,");
        Edge.fault(2, "figure 0 0;".repeat(8) + "@figure");
        Edge.fault(2, "figure 0 0;".repeat(8) + "@figure 20 9;");
        Edge.fault(2, "seat 0;".repeat(8) + "@seat");
        Edge.fault(2, "seat 0;".repeat(8) + "@seat 20;");
        Edge.fault(2, "figure 0 0 1 2 3 4 0 1 2 @3 4 0;");
        Edge.fault(2, "light 0 1 2 3 4 5 6 7 @8 9;");
        Edge.fault(1, "figure 0 0 1 2 3 4 0 1 2 @x;");
        Edge.fault(1, "light 0 1 2 3 4 5 6 7 @x;");
        Edge.fine("figure 0 0;seat 0;".repeat(8));
        nested();
        Edge.says("the seventh 'not' side by side;");
        Edge.fine("goes not not not not not not 1;");
        Edge.fault(2, "goes not not not not not not @not 1;");
        Edge.fault(2, "goes not not not not not not @not");
        Edge.fault(2, "goes 1 and not not not not not not @not 1;");
        Edge.fine("goes not not not not not not (not not not not not not 1);");
        Edge.fine("goes not not not not not not 1 or not not not not not not 1;");
        Edge.fine("goes " + "not 1 and ".repeat(30) + "1;");
    }

    private static void nested() {
        Edge.says("of an EXPR within 6 others (a NUMBER, any word, a parenthesis),");
        Edge.fine("goes (((((1)))));");
        Edge.fine("goes (((((not sore)))))+(((((1)))));");
        Edge.fine("hurts " + "(1)+".repeat(40) + "1;");
        for (String first : new String[] {"1", "12345", "sore", "not 1", "or", "x", "(1", "("}) {
            Edge.fault(2, "goes ((((((@" + first + "))))));");
            Edge.fault(2, "hurts 1+(2*(3-(4/(5<(6=(@" + first + "))))));");
        }
    }

    private static void faultsThreeToFive() {
        Edge.says("3 any word where a PART must stand that is no VALUE of this EXPR,");
        for (String word : new String[] {"x", "wall", "ight", "and", "or", "goes", "table", "sores"}) {
            Edge.fault(3, "goes @" + word + ";");
            Edge.fault(3, "hurts 1+@" + word + ";");
            Edge.fault(3, "goes not (@" + word + ");");
        }
        Edge.fault(3, "goes @held;");
        Edge.fault(3, "hurts @step;");
        Edge.fault(3, "goes 1+@not 1;");
        Edge.fault(3, "goes 1<@not 1;");
        Edge.fault(3, "goes 2*@not 1;");
        Edge.says("a CELL that there isn't, however great;");
        for (String line : new String[] {"wall @%;", "seat @%;", "figure @% 0;"}) {
            Edge.fault(3, line.replace("%", "20"));
            Edge.fault(3, line.replace("%", "0020"));
            Edge.fault(3, line.replace("%", "9999"));
            Edge.fault(3, "table 2 2;" + line.replace("%", "4"));
            Edge.fault(3, "table 6 6;" + line.replace("%", "36"));
            Edge.fine("table 6 6;" + line.replace("%", "35").replace("@", ""));
            Edge.fine(line.replace("%", "19").replace("@", ""));
        }
        Edge.says("4 a CELL that is a WALL already, the CELL of a 'wall' at which a FIGURE or a SEAT is told ahead;");
        Edge.fault(4, "wall 3;wall @3;");
        Edge.fault(4, "wall 3;figure @3 0;");
        Edge.fault(4, "wall 3;seat @3;");
        Edge.fault(4, "figure 3 0;wall @3;");
        Edge.fault(4, "seat 3;wall @3;");
        Edge.fault(4, "table 6 6;wall 35;wall @35;");
        Edge.fault(4, "table 6 6;figure 35 0;wall @35;");
        Edge.fine("figure 3 0;seat 3;figure 3 0;seat 3;wall 4;");
        Edge.says("5 a second 'light', 'dull', 'goes', 'hurts'.");
        Edge.fault(5, "light 1;@light 1;");
        Edge.fault(5, "dull 3;@dull 3;");
        Edge.fault(5, "goes 1;@goes 1;");
        Edge.fault(5, "hurts 0;@hurts 0;");
        Edge.fault(5, "light 1;dull 0;goes 0;hurts 0;@light");
        Edge.fault(5, "dull 0;@dull x;");
        Edge.fine("light 1;dull 1;goes light;hurts light;");
    }
}

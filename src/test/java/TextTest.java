/** The language of the texts: its tokens, its lines, its expressions, and the faults (promises 2, 3 and 4). */
public final class TextTest {
    private static void fault(String text, int number, int place) {
        TownTable x = new TownTable();
        Check.is("town of " + text, Check.town(x, text), number);
        Check.is("fault of " + text, x.fault(), place);
        Check.is("refused for " + text, x.count(15), number == 0 ? 0 : 1);
    }

    private static void fine(String text) {
        fault(text, 0, -1);
    }

    /** The fault stands at the first '@', which is left out of the text. */
    private static void faultAt(int number, String text) {
        fault(text.replace("@", ""), number, text.indexOf('@'));
    }

    private static void tables() {
        fine("");
        fine(" \n ");
        fine("table 2 6;");
        fine("  table6 2;");
        fine("table 0002 0006;");
        faultAt(2, "table @1 2;");
        faultAt(2, "table @7 2;");
        faultAt(2, "table 2 @1;");
        faultAt(2, "table 2 @7;");
        faultAt(2, "table @00002 3;");
        faultAt(2, "table 2 @00003;");
        faultAt(2, "table @4294967298 3;");
        faultAt(1, "table 2@;");
        faultAt(1, "table@;");
        faultAt(1, "table 2 2@");
        faultAt(1, "table 2 2  @");
        faultAt(1, "table 2 2 @2;");
        faultAt(1, "wall 0;@table 2 2;");
        faultAt(1, "table 2 2;@table 2 2;");
        faultAt(1, "@tables 2 2;");
        faultAt(1, "@tabl 2 2;");
    }

    private static void tokens() {
        faultAt(1, "@\twall 0;");
        faultAt(1, "wall@\r0;");
        faultAt(1, "@Wall 0;");
        faultAt(1, "wall @A;");
        faultAt(1, "wall 0@!");
        faultAt(1, "wall @\u00e9;");
        faultAt(1, "wall 0;@\0");
        faultAt(1, "wall 0;@\u00ff");
        faultAt(1, "wall 0;@\u00a0");
        faultAt(1, "wall 0@`;");
        faultAt(1, "wall 0@{;");
        faultAt(1, "wall 0@:;");
        faultAt(1, "wall 0@>;");
        faultAt(1, "@;");
        faultAt(1, "@5;");
        faultAt(1, "@wallx 0;");
        faultAt(1, "@wallz 0;");
        faultAt(1, "@awall 0;");
        faultAt(1, "@xall 0;");
        faultAt(1, "@xable 2 2;");
        faultAt(1, "@xigure 0 0;");
        faultAt(1, "@xeat 0;");
        faultAt(1, "@xight 0;");
        faultAt(1, "@xull 0;");
        faultAt(1, "@xoes 0;");
        faultAt(1, "@xurts 0;");
        faultAt(1, "goes 1 @xnd 1;");
        faultAt(1, "goes 1 @xr 1;");
        faultAt(3, "goes @xot 1;");
        faultAt(3, "goes @xore;");
        faultAt(1, "@walls;");
        faultAt(1, "@and;");
        faultAt(1, "wall 0@");
        faultAt(1, "wall 0 \n @");
        faultAt(1, "wall@");
        fine("wall0;wall\n1 ;");
        fine("figure 0 0\n1 2;seat 0;");
        faultAt(1, "wall @(0);");
        faultAt(1, "wall @-1;");
        faultAt(1, "wall 0 @1;");
        faultAt(1, "seat 0 @1;");
        faultAt(1, "wall 0;@;");
    }

    /** A text ends at its n bytes, whatever else the tape has behind them. */
    private static void ends() {
        TownTable x = new TownTable();
        Check.tape(x, "wall 12;");
        Check.is("wall 1", x.town(6), 1);
        Check.is("its length", x.fault(), 6);
        Check.tape(x, "wall 12;");
        Check.is("wal", x.town(3), 1);
        Check.is("its word", x.fault(), 0);
        Check.tape(x, "wall 1;x");
        Check.is("wall 1;", x.town(7), 0);
        Check.tape(x, "wall 1 ;");
        Check.is("wall 1 and a blank", x.town(7), 1);
        Check.is("its length", x.fault(), 7);
    }

    private static void cells() {
        fine("wall 19;");
        faultAt(3, "wall @20;");
        faultAt(3, "wall @9999;");
        faultAt(3, "seat @9999;");
        faultAt(3, "figure @9999 0;");
        faultAt(3, "wall @0020;");
        faultAt(2, "wall @00020;");
        faultAt(2, "wall @10000;");
        faultAt(2, "wall @99999;");
        faultAt(2, "seat @99999;");
        faultAt(2, "figure @99999 0;");
        faultAt(2, "wall @4294967296;");
        faultAt(2, "seat @18446744073709551616;");
        faultAt(2, "figure @100000000000000000000 0;");
        faultAt(2, "wall @00000;");
        faultAt(2, "seat @00000;");
        faultAt(2, "figure @00000 0;");
        faultAt(2, "wall 0;wall @00000;");
        faultAt(2, "seat 0;wall @00000;");
        faultAt(2, "wall 0;figure @00000 0;");
        fine("wall 0000;");
        fine("table 6 6;wall 35;");
        faultAt(3, "table 6 6;wall @36;");
        fine("table 2 2;seat 3;");
        faultAt(3, "table 2 2;seat @4;");
        faultAt(3, "table 2 2;figure @4 0;");
        faultAt(4, "wall 0;wall @0;");
        faultAt(4, "wall 0;figure @0 0;");
        faultAt(4, "wall 3;seat @3;");
        faultAt(4, "figure 7 0;wall @7;");
        faultAt(4, "seat 7;wall @7;");
        fine("seat 7;figure 7 0;seat 7;figure 7 0;");
        faultAt(1, "wall @;");
        faultAt(1, "seat @x;");
        faultAt(1, "figure @;");
    }

    private static void manyOf(String line, int most) {
        fine(line.repeat(most));
        faultAt(2, line.repeat(most) + "@" + line);
        faultAt(2, line.repeat(most) + "@" + line.substring(0, line.indexOf(' ')));
    }

    private static void rows() {
        manyOf("figure 1 0;", 8);
        manyOf("seat 1;", 8);
        faultAt(1, "figure 0@;");
        faultAt(1, "figure 0@");
        faultAt(2, "figure 0 @5;");
        faultAt(2, "figure 0 1 @5;");
        faultAt(2, "figure 0 @00000;");
        faultAt(2, "figure 0 @99999999999;");
        fine("figure 0 0 1 2 3 4 3 2 1;");
        fine("figure 0 0000 0001;");
        faultAt(2, "figure 0 0 1 2 3 4 3 2 1 @0;");
        faultAt(2, "figure 0 0 1 2 3 4 3 2 1 @9;");
        faultAt(1, "figure 0 0 1 2 3 4 3 2 1 @x;");
        faultAt(1, "figure 0 0 1 @x;");
        faultAt(1, "figure 0 0 @(;");
        fine("light 0 9 0 9 0 9 0 9;");
        faultAt(2, "light 0 9 0 9 0 9 0 9 @0;");
        faultAt(2, "light @10;");
        faultAt(2, "light 9 @10;");
        faultAt(2, "light @00001;");
        faultAt(1, "light@;");
        faultAt(1, "light @x;");
        fine("dull 0;");
        fine("dull 9;");
        faultAt(2, "dull @10;");
        faultAt(2, "dull @00003;");
        faultAt(2, "dull @4294967296;");
        faultAt(2, "light @4294967296;");
        faultAt(2, "figure 0 @4294967296;");
        faultAt(1, "dull@;");
        faultAt(1, "dull 1 @2;");
        faultAt(5, "light 1;@light 2;");
        faultAt(5, "dull 0;@dull");
        faultAt(5, "goes 1;@goes 2;");
        faultAt(5, "hurts 0;@hurts 2;");
        faultAt(5, "dull 1;light 1;goes 1;hurts 1;@goes x;");
    }

    private static void expressions() {
        fine("goes 9999;");
        faultAt(2, "goes @10000;");
        faultAt(2, "goes @4294967296;");
        faultAt(2, "hurts @4294967297;");
        faultAt(2, "goes 1+@00000;");
        faultAt(1, "goes@;");
        faultAt(1, "goes@");
        faultAt(1, "goes 1@");
        faultAt(1, "goes 1 @2;");
        faultAt(1, "goes 1 @12345;");
        faultAt(1, "goes 1 @sore;");
        faultAt(1, "goes 1 @not 1;");
        faultAt(1, "goes 1 @(2);");
        faultAt(1, "goes @+1;");
        faultAt(1, "goes @-1;");
        faultAt(1, "goes 1+@+1;");
        faultAt(1, "goes 1<@<1;");
        faultAt(1, "goes 1@!1;");
        faultAt(1, "goes 1@)");
        faultAt(1, "goes (1@;");
        faultAt(1, "goes (@);");
        faultAt(1, "goes ((1)@;");
        faultAt(1, "goes (1)@);");
        faultAt(1, "goes 1<2@<3;");
        faultAt(1, "goes 1=2@<3;");
        faultAt(1, "goes 1<2@=3;");
        faultAt(1, "goes 1<2+3@=3;");
        faultAt(1, "goes not 1<2@=3;");
        fine("goes (1<2)<3;");
        fine("goes 1<2 and 1<2 or 1=2 and not 3=4;");
        faultAt(1, "goes 1 and@;");
        faultAt(1, "goes 1 or@;");
        faultAt(1, "goes 1*@;");
    }

    private static void words() {
        fine("goes sore+light+with+hour+step;");
        fine("hurts sore+light+with+hour+held;");
        faultAt(3, "goes @held;");
        faultAt(3, "hurts @step;");
        faultAt(3, "goes @x;");
        faultAt(3, "goes 1+@wall;");
        faultAt(3, "goes @or 1;");
        faultAt(3, "goes 1 and @and 1;");
        faultAt(3, "goes 1+@not 1;");
        faultAt(3, "goes 1<@not 1;");
        faultAt(3, "goes 1*@not 1;");
        faultAt(3, "goes not @nots;");
        faultAt(3, "goes @notsore;");
        faultAt(3, "goes (@table);");
        faultAt(1, "goes 1 @table;");
        faultAt(1, "goes 1 @x;");
        faultAt(1, "goes 1 @ands 1;");
        fine("goes not not not not not not 1;");
        faultAt(2, "goes not not not not not not @not 1;");
        faultAt(2, "goes not\nnot not not not not @not not 1;");
        fine("goes not not not not not not (not not not not not not 1);");
        fine("goes not not not not not not 1 and not not not not not not 1;");
        faultAt(2, "goes 1 or not not not not not not @not 1;");
        faultAt(3, "goes not not not not not not @x;");
    }

    private static void deep() {
        String five = "(".repeat(5);
        String six = "(".repeat(6);
        fine("goes " + five + "1" + ")".repeat(5) + ";");
        fine("goes " + five + "not sore" + ")".repeat(5) + "+(1);");
        faultAt(2, "goes " + six + "@1" + ")".repeat(6) + ";");
        faultAt(2, "goes " + six + "@(1");
        faultAt(2, "goes " + six + "@sore");
        faultAt(2, "goes " + six + "@not 1");
        faultAt(2, "goes " + six + "@x");
        faultAt(2, "goes " + six + "@12345");
        faultAt(1, "goes " + six + "@)");
        faultAt(1, "goes " + six + "@;");
        faultAt(1, "goes " + six + "@");
        faultAt(1, "goes " + six + "@!");
        faultAt(2, "goes 1+" + five + "1*(@1" + ")".repeat(6) + ";");
        faultAt(2, "hurts (1)+((((((@held))))));");
        fine("goes (((((1)+(1)))*(1)));");
    }

    /** What an expression gives, told by a figure that is held once in company and sore by the test of it. */
    private static void gives(String expr, String value) {
        TownTable x = Check.table("figure 0 2;figure 0 0;light 7;hurts (" + expr + ")=(" + value + ");");
        x.stop(0, 1);
        Check.is(expr + " is " + value, x.then(0, 1, 1), 1);
        TownTable y = Check.table("figure 0 2;figure 0 0;light 7;hurts (" + expr + ")=(" + value + "+1);");
        y.stop(0, 1);
        Check.is(expr + " is not " + value + "+1", y.then(0, 1, 1), 0);
    }

    private static void numbers() {
        gives("2+3*4", "14");
        gives("(2+3)*4", "20");
        gives("2*3+4", "10");
        gives("10-4-3", "3");
        gives("10-4+3", "9");
        gives("10-(4-3)", "9");
        gives("100/10/5", "2");
        gives("100/(10/5)", "50");
        gives("2*7/4", "3");
        gives("7/4*2", "2");
        gives("7/2", "3");
        gives("(0-7)/2", "0-3");
        gives("7/(0-2)", "0-3");
        gives("7/0", "0");
        gives("(0-7)/0", "0");
        gives("0/0+5", "5");
        gives("4096*4096*256", "0");
        gives("4096*4096*128", "0-4096*4096*128");
        gives("(4096*4096*128)/(0-1)", "4096*4096*128");
        gives("4096*4096*128-1", "2147*1000*1000+4836*100+47");
        gives("0007", "7");
    }

    private static void tests() {
        gives("3<4", "1");
        gives("4<3", "0");
        gives("3<3", "0");
        gives("0-1<0", "1");
        gives("3=3", "1");
        gives("3=4", "0");
        gives("1+1=2", "1");
        gives("2+(3<4)", "3");
        gives("5 and 3", "1");
        gives("5 and 0", "0");
        gives("0 and 5", "0");
        gives("5 or 0", "1");
        gives("0 or 5", "1");
        gives("0 or 0", "0");
        gives("0-1 or 0", "1");
        gives("(0-1) and 2", "1");
        gives("5", "5");
        gives("(5)", "5");
        gives("not 5", "0");
        gives("not 0", "1");
        gives("not not 5", "1");
        gives("not (0-1)", "0");
        gives("1 or 0 and 0", "1");
        gives("0 and 0 or 1", "1");
        gives("not 1 or 1", "1");
        gives("not (1 or 1)", "0");
        gives("not 0 and 0", "0");
        gives("not 1=2", "1");
        gives("not 3+1", "0");
        gives("not 0 + 1 < 1", "1");
        gives("1 and not 0", "1");
        gives("2 and 2 = 1", "0");
        gives("1 or 2 or 0", "1");
        gives("3 and 2 and 1", "1");
        gives("0 or not 0 and 3 < 4", "1");
    }

    private static void valuesOfHurts() {
        gives("sore", "0");
        gives("light", "7");
        gives("with", "1");
        gives("hour", "0");
        gives("held", "1");
        gives("light*10+with+held", "72");
    }

    /** As many operands and operators waiting as a text can have, and as long a rule as a tape can hold. */
    private static void longest() {
        String open = "0 or 1 and not not not not not not 1<1+1*(";
        String deep = open.repeat(5) + "0 or 1 and not not not not not not 1<1+1*2" + ")".repeat(5);
        TownTable x = Check.table("figure 0 2;hurts " + deep + "+6;");
        x.stop(0, 1);
        Check.is("1 is less than 1 and what is within, which is 1", x.then(0, 1, 1), 1);
        String sum = "figure 0 2;goes 1" + "-0".repeat(341) + ";";
        Check.is("a tape's length", sum.length(), 700);
        TownTable full = Check.table(sum);
        Check.is("goes", full.then(0, 5, 0), 4);
        TownTable tests = Check.table("figure 0 2;goes 1" + "<1 or 0".repeat(97) + ";");
        Check.is("goes, as 0 is less than 1", tests.then(0, 5, 0), 4);
        fault("goes 1" + "+1".repeat(347), 1, 700);
        fault("goes " + "(".repeat(695), 2, 11);
        fault("wall 0" + "0".repeat(694), 2, 5);
        fault("a".repeat(700), 1, 0);
        fault(";".repeat(700), 1, 0);
        TownTable walls = Check.table("wall 0;wall 1;wall 2;wall 3;wall 4;wall 5;wall 6;wall 7;wall 8;wall 9;wall 10;"
                + "wall 11;wall 12;wall 13;wall 14;wall 15;wall 16;wall 17;wall 18;wall 19;");
        Check.is("walls all over", walls.count(8), 20);
        Check.is("no parts", walls.count(9), 0);
    }

    public static void main(String[] args) {
        tables();
        tokens();
        ends();
        cells();
        rows();
        expressions();
        words();
        deep();
        numbers();
        tests();
        valuesOfHurts();
        longest();
        Check.end("TextTest");
    }
}

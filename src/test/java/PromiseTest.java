/** The promises one by one: ordinary inputs, the edges that the document names, and wrong inputs. */
public final class PromiseTest {
    private static final int NONE = TownTable.NONE;
    private static final int NSE = Check.NSE;
    private static final int IAE = Check.IAE;
    private static final int FAR = Integer.MAX_VALUE;
    private static final int LOW = Integer.MIN_VALUE;

    // . # . .     figure 0 at 0 goes right, right, down; 1 at 3 goes left; 2 at 8 stays; the third hour is dull
    private static final String TOWN =
            "table 4 3;wall 5;figure 0 2 2 3;figure 3 4;figure 8 0;seat 2;seat 11;light 5 5 2;";

    private static void is(String label, long got, long want) {
        Check.is(label, got, want);
    }

    private static void yes(String label, boolean got) {
        Check.is(label, got, true);
    }

    private static void no(String label, boolean got) {
        Check.is(label, got, false);
    }

    private static void call(String label, Check.Call call, int want) {
        Check.call(label, call, want);
    }

    private static void counts(String label, TownTable x, int... want) {
        for (int what = 0; what < want.length; what++) {
            is(label + ": count(" + what + ")", x.count(what), want[what]);
        }
    }

    private static void figures(String label, TownTable x, int what, int... want) {
        for (int f = 0; f < want.length; f++) {
            is(label + ": figure(" + f + ", " + what + ")", x.figure(f, what), want[f]);
        }
    }

    private static void p01NewObject() {
        TownTable x = new TownTable();
        counts("new", x, 0, 0, 5, 4, 0, 5, 0, 0, 0, 1, 0, 0, 0, 0, 0, 0, 0, 0);
        is("NONE", TownTable.NONE, -1);
        is("fault", x.fault(), NONE);
        call("figure 0", () -> x.figure(0, 0), NSE);
        call("cell 19", () -> x.cell(19, 0), 0);
        call("cell 20", () -> x.cell(20, 0), NSE);
        no("restore", x.restore());
        is("undo", x.undo(), NONE);
        is("hours", x.hours(20), 20);
        is("light stays", x.count(5), 5);
        TownTable other = new TownTable();
        is("objects share nothing", other.count(4), 0);
    }

    private static void p02Feed() {
        TownTable x = new TownTable();
        int blanks = 0x20202020;
        is("feed", x.feed(0x77616c6c, 0x20333b77, 0x616c6c20, 0x343b7761, 0x6c6c2035), 20);
        is("feed behind", x.feed(0x3bffffff, blanks, blanks, blanks, 0x20202080), 40);
        is("tape", x.count(14), 40);
        is("highest byte first", x.town(21), 0);
        is("walls of five numbers", x.count(8), 3);
        is("cell 5", x.cell(5, 0), 1);
        for (int i = 1; i <= 35; i++) {
            is("feed " + i, x.feed(blanks, blanks, blanks, blanks, blanks), 20 * i);
        }
        is("too much", x.feed(0, 0, 0, 0, 0), NONE);
        is("none came", x.count(14), 700);
        is("too much again", x.feed(0, 0, 0, 0, 0), NONE);
        is("700 blanks", x.town(700), 0);
        is("empty then", x.count(14), 0);
        is("feed anew", x.feed(-1, -1, -1, -1, -1), 20);
        is("bytes of -1", x.town(1), 1);
    }

    private static void p03Town() {
        TownTable x = Check.table(TOWN);
        counts("town", x, 3, 2, 4, 3, 0, 5, 0, 0, 1, 1, 0, 0, 0, 0, 0, 0, 0, 0);
        x.stop(0, 3);
        x.hours(1);
        x.note(0, 0, 0);
        x.stop(0, 11);
        x.note(0, 0, 99);
        x.image();
        Check.tape(x, "wall 0;seat 0;");
        call("n of 21", () -> x.town(21), IAE);
        call("n below 0", () -> x.town(-1), IAE);
        call("n far", () -> x.town(FAR), IAE);
        call("n low", () -> x.town(LOW), IAE);
        is("the tape stays", x.count(14), 20);
        is("no fault of it", x.fault(), NONE);
        is("fault", x.town(14), 4);
        is("its place", x.fault(), 12);
        counts("all stays", x, 3, 2, 4, 3, 1, 5, 0, 1, 1, 1, 1, 1, 2, 1, 0, 1, 1, 1);
        call("the tape is empty", () -> x.town(1), IAE);
        is("the fault stays", x.fault(), 12);
        yes("the image stays", x.restore());
        Check.tape(x, "table 2 2;figure 3 1 1;");
        is("only the first bytes", x.town(10), 0);
        counts("all anew", x, 0, 0, 2, 2, 0, 5, 0, 0, 0, 1, 0, 0, 0, 0, 0, 1, 1, 1);
        no("the image is gone", x.restore());
        is("the acts are gone", x.undo(), NONE);
        is("no fault", x.fault(), NONE);
        is("an empty text", x.town(0), 0);
        counts("an empty text", x, 0, 0, 5, 4, 0, 5, 0);
        is("a town behind a town", Check.town(x, "goes 1;hurts 1;dull 9;light 1;figure 0 1;"), 0);
        is("without rules again", Check.town(x, "figure 0 2;"), 0);
        is("light without", x.count(5), 5);
        is("not dull without", x.count(6), 0);
        is("hurts without", x.stop(0, 9), 1);
        is("sore by one", x.then(0, 9, 1), 9);
        x.hours(3);
        is("a town again", Check.town(x, "figure 0 2;figure 0 3;"), 0);
        figures("nobody is held", x, 3, 0, 0);
        figures("nobody is sore", x, 2, 0, 0);
        figures("from the first hour on", x, 4, 2, 3);
        nothingIsLeftBehind();
    }

    private static void nothingIsLeftBehind() {
        TownTable x = Check.table("figure 0 0;figure 1 0;figure 2 0;figure 7 0;seat 3;seat 4;seat 5;seat 6;");
        seating("four", x, 4, 6, 2, 0, 1, 3);
        is("fewer figures", Check.town(x, "figure 0 0;figure 1 0;seat 0;seat 3;seat 2;"), 0);
        seating("two", x, 2, 1, 0, 2);
        is("a rule that turns", Check.town(x, "goes not 1;figure 0 2;"), 0);
        is("stays", x.then(0, 1, 0), 0);
        is("a rule that doesn't", Check.town(x, "goes 1;figure 0 2;"), 0);
        is("goes", x.then(0, 1, 0), 1);
        is("a rule that breaks off", Check.town(x, "goes not not (not (1"), 1);
        is("a rule behind it", Check.town(x, "goes 1;figure 0 2;"), 0);
        is("goes", x.then(0, 1, 0), 1);
        is("light", Check.town(x, "light 1 2 3;dull 9;"), 0);
        is("no light", Check.town(x, ""), 0);
        is("five", x.count(5), 5);
        is("not dull", x.count(6), 0);
    }

    private static void p04Fault() {
        TownTable x = new TownTable();
        is("fault 1", Check.town(x, "  wall x;"), 1);
        is("at its first byte", x.fault(), 7);
        is("fault at the end", Check.town(x, "wall 1 "), 1);
        is("the length", x.fault(), 7);
        is("none", Check.town(x, "wall 1;"), 0);
        is("NONE", x.fault(), NONE);
        is("refused", x.count(15), 2);
    }

    private static void p05Count() {
        TownTable x = Check.table(TOWN);
        counts("at first", x, 3, 2, 4, 3, 0, 5, 0, 0, 1, 1, 0, 0, 0, 0, 0, 0, 0, 0);
        x.stop(2, 9);
        x.stop(0, 1);
        x.note(1, 2, 3);
        x.hours(2);
        x.brush(1);
        x.note(1, 2, 21);
        x.feed(0, 0, 0, 0, 0);
        counts("later", x, 3, 2, 4, 3, 2, 2, 1, 2, 1, 1, 3, 4, 3, 1, 20, 0, 1, 1);
        call("18", () -> x.count(18), NSE);
        call("-1", () -> x.count(-1), NSE);
        call("far", () -> x.count(FAR), NSE);
        is("parts", Check.table("table 3 3;wall 1;wall 4;wall 7;").count(9), 2);
        is("corners don't hang together", Check.table("table 3 3;wall 1;wall 3;wall 5;wall 7;").count(9), 5);
        is("no parts", Check.table("table 2 2;wall 0;wall 1;wall 2;wall 3;").count(9), 0);
        is("rows don't hang together", Check.table("table 3 2;wall 1;wall 4;").count(9), 2);
        is("a row's end isn't beside the next one",
                Check.table("table 3 3;wall 1;wall 4;wall 5;wall 6;wall 7;").count(9), 3);
        TownTable lit = Check.table("light 3 2;");
        is("dull is below 3", lit.count(6), 0);
        lit.hours(1);
        is("dull", lit.count(6), 1);
        is("never dull", Check.table("light 0;dull 0;").count(6), 0);
        is("always dull", Check.table("dull 6;").count(6), 1);
        is("not below 5", Check.table("dull 5;").count(6), 0);
    }

    private static void p06Figure() {
        TownTable x = Check.table("table 3 3;figure 4 1 2 3;figure 4 0;figure 8 4;light 9 9 9 9 0;");
        x.stop(1, 4);
        x.hours(2);
        figures("cell", x, 0, 2, 4, 6);
        figures("steps", x, 1, 3, 1, 1);
        figures("sore", x, 2, 0, 2, 0);
        figures("held", x, 3, 0, 2, 0);
        figures("next", x, 4, 3, 0, 4);
        figures("lead", x, 5, 0, 0, 0);
        figures("others", x, 6, 0, 0, 0);
        x.undo();
        figures("others", x, 6, 1, 1, 0);
        figures("next", x, 4, 1, 0, 4);
        x.hours(3);
        figures("next of the third", x, 4, 1, 0, 4);
        call("no such", () -> x.figure(3, 0), NSE);
        call("no such", () -> x.figure(-1, 0), NSE);
        call("what", () -> x.figure(0, 7), NSE);
        call("what", () -> x.figure(0, -1), NSE);
    }

    private static void p07Cell() {
        TownTable x = Check.table("table 5 3;wall 7;figure 5 0;figure 9 0;figure 2 0;figure 12 0;figure 12 0;"
                + "seat 12;seat 0;seat 12;");
        is("wall", x.cell(7, 0), 1);
        is("no wall", x.cell(6, 0), 0);
        is("figures", x.cell(12, 1), 24);
        is("no figures", x.cell(0, 1), 0);
        is("seats", x.cell(12, 2), 5);
        is("seats", x.cell(0, 2), 2);
        is("no seats", x.cell(2, 2), 0);
        is("behind the wall isn't seen", x.cell(6, 3), 1);
        is("behind the wall isn't seen", x.cell(8, 3), 2);
        is("down a column", x.cell(2, 3), 4);
        is("at it, too", x.cell(12, 3), 24);
        is("from a wall", x.cell(7, 3), 31);
        is("across", x.cell(14, 3), 26);
        is("none", x.cell(3, 3), 4);
        is("a figure hides none", Check.table("table 5 2;figure 1 0;figure 2 0;figure 4 0;").cell(0, 3), 7);
        is("not round a row's end", Check.table("table 3 3;figure 2 0;").cell(3, 3), 0);
        call("no such", () -> x.cell(15, 0), NSE);
        call("no such", () -> x.cell(-1, 0), NSE);
        call("what", () -> x.cell(0, 4), NSE);
        call("what", () -> x.cell(0, -1), NSE);
    }

    private static void p08Hours() {
        TownTable x = Check.table(TOWN);
        is("one", x.hours(1), 1);
        figures("one", x, 0, 1, 2, 8);
        is("two more", x.hours(2), 3);
        figures("three", x, 0, 6, 0, 8);
        is("0", x.hours(0), NONE);
        is("21", x.hours(21), NONE);
        is("low", x.hours(LOW), NONE);
        is("far", x.hours(FAR), NONE);
        is("refused", x.count(16), 4);
        is("two acts", x.count(12), 2);
        is("twenty", x.hours(20), 23);
        TownTable y = new TownTable();
        for (int i = 0; i < 499; i++) {
            y.hours(20);
        }
        is("9980", y.count(4), 9980);
        is("9999", y.hours(19), 9999);
        is("above 9999", y.hours(1), NONE);
        is("refused", y.count(16), 1);
        is("forty acts", y.count(12), 40);
    }

    private static void hoursOfTheHeld() {
        TownTable x = Check.table("figure 0 2;light 9 9 0 9;");
        x.stop(0, 4);
        x.hours(1);
        figures("held by light", x, 0, 0);
        figures("sore by one", x, 2, 1);
        figures("held for less", x, 3, 3);
        x.hours(2);
        figures("goes when dull", x, 0, 1);
        figures("not sore by it", x, 2, 2);
        figures("held for less though dull", x, 3, 1);
        x.hours(1);
        figures("held again", x, 0, 1);
        figures("sore", x, 2, 3);
        figures("no more", x, 3, 0);
        x.hours(1);
        figures("goes on", x, 0, 2);
        TownTable y = Check.table("figure 0 2 2 2 2 4 4 4 4;hurts 5;");
        y.stop(0, 2);
        y.hours(2);
        figures("too sore", y, 2, 10);
        y.hours(5);
        figures("stays, as sore as 10", y, 0, 0);
        y.brush(0);
        y.hours(1);
        figures("goes", y, 0, 0);
        y.hours(1);
        figures("goes by the hour's step", y, 0, 1);
        TownTable z = Check.table("figure 0 2;hurts 9;");
        z.stop(0, 1);
        z.hours(3);
        figures("as sore as 9 goes", z, 0, 2);
    }

    private static void hoursByRules() {
        is("hurts above 9", held("hurts 10", 1), 9);
        is("hurts by 9", held("hurts 9", 1), 9);
        is("hurts below 0", held("hurts 0-1", 3), 0);
        is("hurts by 0", held("hurts 0", 3), 0);
        is("hurts by what is left", held("hurts held*2", 3), 12);
        is("hurts by the hour", held("hurts hour", 4), 6);
        is("hurts by what was", held("hurts 1+sore", 4), 15);
        is("hurts by light", held("hurts light", 3), 15);
        TownTable x = Check.table("figure 0 0;hurts 9;");
        for (int i = 0; i < 2; i++) {
            x.stop(0, 9);
            x.hours(9);
        }
        is("99 at most", x.figure(0, 2), 99);
        TownTable step = Check.table("figure 6 1 2 3;goes step=2;");
        step.hours(3);
        figures("only to the right", step, 0, 7);
        TownTable zero = Check.table("figure 0 2;goes 0;");
        zero.hours(1);
        figures("0 isn't more", zero, 0, 0);
        TownTable less = Check.table("figure 0 2;goes 0-1;");
        less.hours(1);
        figures("-1 isn't more", less, 0, 0);
        TownTable sore = Check.table("figure 0 2;goes 1+sore;hurts 9;");
        sore.stop(0, 9);
        sore.hours(10);
        figures("by the rule alone, however sore", sore, 0, 1);
        TownTable with = Check.table("figure 0 2;figure 1 4;goes with<1;");
        with.hours(1);
        figures("by what is so at its turn", with, 0, 1, 1);
        TownTable light = Check.table("figure 0 2;light 4 6;goes 5<light;");
        light.hours(4);
        figures("in every other hour", light, 0, 2);
        TownTable hour = Check.table("table 6 2;figure 0 2;goes hour<3;");
        hour.hours(9);
        figures("for three hours", hour, 0, 3);
        TownTable company = Check.table("figure 0 0;figure 1 4;figure 2 0;hurts with*3+1;");
        company.stop(0, 2);
        company.hours(2);
        figures("others count at its turn", company, 2, 5, 0, 0);
    }

    private static int held(String rule, int hours) {
        TownTable x = Check.table("figure 0 2;" + rule + ";");
        x.stop(0, hours);
        x.hours(hours);
        return x.figure(0, 2);
    }

    private static void hoursAtEdges() {
        TownTable x = Check.table("table 3 3;wall 1;figure 4 1;figure 0 4;figure 2 1;figure 8 2;figure 6 3;"
                + "figure 5 2;");
        x.hours(1);
        figures("wall, and off each side", x, 0, 4, 0, 2, 8, 6, 5);
        TownTable y = Check.table("table 3 3;figure 4 1;figure 4 2;figure 4 3;figure 4 4;figure 4 0;");
        y.hours(1);
        figures("each step", y, 0, 1, 5, 7, 3, 4);
    }

    private static void p09Stop() {
        TownTable x = Check.table(TOWN);
        is("a penny", x.stop(0, 1), 1);
        is("another", x.stop(1, 9), 2);
        is("in place", x.stop(1, 2), 3);
        figures("held", x, 3, 1, 2, 0);
        is("0", x.stop(0, 0), NONE);
        is("10", x.stop(0, 10), NONE);
        is("-1", x.stop(0, -1), NONE);
        call("no such", () -> x.stop(3, 1), NSE);
        call("no such, though wrong hours", () -> x.stop(-1, 99), NSE);
        is("pence", x.count(7), 3);
        is("refused", x.count(16), 3);
        is("acts", x.count(12), 3);
        x.hours(2);
        is("dull", x.stop(2, 1), NONE);
        call("no such when dull", () -> x.stop(3, 1), NSE);
        is("refused", x.count(16), 4);
        figures("not held", x, 3, 0, 0, 0);
    }

    private static void p10Lift() {
        TownTable x = Check.table(TOWN);
        x.stop(0, 5);
        is("lifted", x.lift(0, 7), 0);
        figures("there", x, 0, 7, 3, 8);
        figures("held no more", x, 3, 0, 0, 0);
        is("pence", x.count(7), 4);
        is("there already", x.lift(0, 7), NONE);
        is("a wall", x.lift(0, 5), NONE);
        is("to another", x.lift(0, 8), 7);
        is("others are there", x.figure(0, 6), 1);
        call("no such figure", () -> x.lift(3, 0), NSE);
        call("no such figure", () -> x.lift(-1, 0), NSE);
        call("no such cell", () -> x.lift(0, 12), NSE);
        call("no such cell", () -> x.lift(0, -1), NSE);
        is("refused", x.count(16), 2);
        x.hours(2);
        is("dull", x.lift(0, 0), NONE);
        call("no such cell when dull", () -> x.lift(0, 12), NSE);
        is("refused", x.count(16), 3);
        is("pence", x.count(7), 7);
    }

    private static void p11Brush() {
        TownTable x = Check.table("figure 0 0;figure 1 0;light 5 1;");
        is("not sore", x.brush(0), NONE);
        x.stop(0, 3);
        x.hours(3);
        is("dull", x.count(6), 1);
        is("though dull", x.brush(0), 2);
        figures("not sore", x, 2, 0, 0);
        is("no pence", x.count(7), 1);
        is("not again", x.brush(0), NONE);
        is("refused", x.count(16), 2);
        is("acts", x.count(12), 3);
        call("no such", () -> x.brush(2), NSE);
        call("no such", () -> x.brush(-1), NSE);
    }

    private static void p12Wall() {
        TownTable x = Check.table(TOWN);
        yes("put up", x.wall(1, true));
        is("is", x.cell(1, 0), 1);
        no("is already", x.wall(1, true));
        yes("taken", x.wall(1, false));
        is("isn't", x.cell(1, 0), 0);
        no("isn't already", x.wall(1, false));
        yes("one of the text is taken", x.wall(5, false));
        no("a figure is there", x.wall(0, true));
        no("a seat is there", x.wall(11, true));
        no("a figure is no wall", x.wall(0, false));
        is("refused", x.count(16), 5);
        is("acts", x.count(12), 3);
        call("no such", () -> x.wall(12, true) ? 1 : 0, NSE);
        call("no such", () -> x.wall(-1, false) ? 1 : 0, NSE);
        x.hours(2);
        yes("though dull", x.wall(3, true));
        is("no pence", x.count(7), 0);
        TownTable y = Check.table("table 6 6;figure 0 2;");
        yes("the last cell", y.wall(35, true));
        yes("one of the second half", y.wall(32, true));
        is("both", y.count(8), 2);
        is("35", y.cell(35, 0), 1);
        is("not 3", y.cell(3, 0), 0);
        y.undo();
        is("32", y.cell(32, 0), 0);
        is("35", y.cell(35, 0), 1);
        yes("before the figure", y.wall(1, true));
        y.hours(3);
        figures("round walls", y, 0, 0);
    }

    private static void p13Undo() {
        TownTable x = Check.table(TOWN);
        x.stop(0, 2);
        x.hours(1);
        x.lift(1, 7);
        x.brush(0);
        x.wall(1, true);
        x.wall(5, false);
        is("a wall that was taken", x.undo(), 5);
        is("is", x.cell(5, 0), 1);
        is("a wall that was put up", x.undo(), 4);
        is("isn't", x.cell(1, 0), 0);
        is("brushed", x.undo(), 3);
        figures("sore", x, 2, 1, 0, 0);
        is("lifted", x.undo(), 2);
        figures("cells", x, 0, 0, 2, 8);
        is("pence back", x.count(7), 1);
        is("an hour", x.undo(), 1);
        counts("the hour", x, 3, 2, 4, 3, 0, 5, 0, 1, 1, 1, 0, 1, 1);
        figures("held", x, 3, 2, 0, 0);
        figures("cells", x, 0, 0, 3, 8);
        is("stopped", x.undo(), 0);
        counts("all", x, 3, 2, 4, 3, 0, 5, 0, 0, 1, 1, 0, 0, 0);
        is("none", x.undo(), NONE);
        is("that isn't refused", x.count(16), 0);
        x.stop(0, 7);
        x.lift(0, 1);
        x.undo();
        figures("held again", x, 3, 7, 0, 0);
        x.hours(20);
        is("many hours are one act", x.undo(), 1);
        is("hour", x.count(4), 0);
        x.note(0, 0, 0);
        x.undo();
        is("what is noted stays", x.count(13), 1);
        TownTable y = new TownTable();
        for (int i = 1; i <= 45; i++) {
            y.hours(1);
            is("acts", y.count(12), Math.min(40, i));
        }
        for (int i = 39; i >= 0; i--) {
            is("undone", y.undo(), i);
            is("hour", y.count(4), 5 + i);
        }
        is("no more", y.undo(), NONE);
        is("hour", y.count(4), 5);
        y.hours(2);
        is("an act again", y.count(12), 1);
        is("undone again", y.undo(), 0);
        is("hour", y.count(4), 5);
    }

    private static void p14Then() {
        TownTable x = Check.table(TOWN);
        int[] cells = {0, 1, 2, 6, 7, 7, 11, 11};
        for (int h = 0; h < cells.length; h++) {
            is("cell behind " + h, x.then(0, h, 0), cells[h]);
        }
        x.stop(2, 5);
        is("sore", x.then(2, 0, 1), 0);
        is("sore", x.then(2, 3, 1), 2);
        is("sore", x.then(2, 100, 1), 4);
        is("held", x.then(2, 0, 2), 5);
        is("held", x.then(2, 2, 2), 3);
        is("held", x.then(2, 5, 2), 0);
        is("held", x.then(2, 100, 2), 0);
        is("now stays", x.count(4), 0);
        call("no such", () -> x.then(3, 0, 0), NSE);
        call("no such ahead", () -> x.then(-1, 101, 0), NSE);
        call("what", () -> x.then(0, 0, 3), NSE);
        call("what ahead", () -> x.then(0, -1, -1), NSE);
        call("101", () -> x.then(0, 101, 0), IAE);
        call("-1", () -> x.then(0, -1, 0), IAE);
        x.hours(4);
        is("from now", x.then(0, 2, 0), 11);
        is("at 100", Check.table("figure 0 2 4;").then(0, 100, 0), 0);
        is("at 99", Check.table("figure 0 2 4;").then(0, 99, 0), 1);
        TownTable late = Check.table("figure 0 2 4;");
        for (int i = 0; i < 499; i++) {
            late.hours(20);
        }
        late.hours(19);
        is("beyond 9999", late.then(0, 2, 0), late.figure(0, 0));
    }

    private static void p15Comes() {
        TownTable x = Check.table(TOWN);
        is("now", x.comes(0, 0), 0);
        is("first", x.comes(0, 7), 4);
        is("later", x.comes(0, 11), 6);
        is("never", x.comes(2, 9), NONE);
        is("a wall", x.comes(0, 5), NONE);
        TownTable y = Check.table("figure 0 2;goes hour=99;");
        is("behind 100", y.comes(0, 1), 100);
        TownTable z = Check.table("figure 0 2;goes hour=100;");
        is("behind 101", z.comes(0, 1), NONE);
        z.hours(1);
        is("then behind 100", z.comes(0, 1), 100);
        is("the hour stays", z.count(4), 1);
        call("no such figure", () -> x.comes(3, 0), NSE);
        call("no such figure", () -> x.comes(-1, 0), NSE);
        call("no such cell", () -> x.comes(0, 12), NSE);
        call("no such cell", () -> x.comes(0, -1), NSE);
    }

    private static void p16Meet() {
        TownTable x = Check.table("figure 0 2;figure 4 4;figure 15 0;figure 15 0;");
        is("midway", x.meet(0, 1), 2);
        is("midway", x.meet(1, 0), 2);
        is("now", x.meet(2, 3), 0);
        is("never", x.meet(0, 2), NONE);
        is("both are one", x.meet(2, 2), NONE);
        is("past each other", Check.table("figure 0 2;figure 1 4;").meet(0, 1), NONE);
        is("behind 100", Check.table("figure 0 2;figure 1 0;goes hour=99;").meet(0, 1), 100);
        is("behind 101", Check.table("figure 0 2;figure 1 0;goes hour=100;").meet(0, 1), NONE);
        call("no such", () -> x.meet(4, 0), NSE);
        call("no such", () -> x.meet(0, 4), NSE);
        call("no such twice", () -> x.meet(4, 4), NSE);
        call("no such", () -> x.meet(0, -1), NSE);
    }

    private static void p17Crowd() {
        TownTable x = Check.table("figure 0 2;figure 4 4;figure 9 1;figure 7 0;figure 7 0;");
        is("now", x.crowd(0, 0), 2);
        is("where", x.crowd(0, 1), 7);
        is("then two by two", x.crowd(2, 0), 2);
        is("the least", x.crowd(2, 1), 2);
        is("behind four", x.crowd(4, 0), 2);
        is("where", x.crowd(4, 1), 4);
        is("behind 100", x.crowd(100, 1), 4);
        is("alone each", Check.table("figure 9 0;figure 3 0;").crowd(1, 0), 1);
        is("the least", Check.table("figure 9 0;figure 3 0;").crowd(1, 1), 3);
        is("none", new TownTable().crowd(3, 0), 0);
        is("nowhere", new TownTable().crowd(3, 1), NONE);
        is("the last cell", Check.table("table 6 6;figure 35 0;").crowd(0, 1), 35);
        call("what", () -> x.crowd(0, 2), NSE);
        call("what ahead", () -> x.crowd(101, -1), NSE);
        call("101", () -> x.crowd(101, 0), IAE);
        call("-1", () -> x.crowd(-1, 1), IAE);
    }

    private static void p18Round() {
        is("without figures", new TownTable().round(), 1);
        is("who stays", Check.table("figure 0 0;").round(), 1);
        is("to and fro", Check.table("figure 0 2 4;").round(), 2);
        is("all at once", Check.table("figure 0 2 4;figure 1 2 2 4 4;").round(), 4);
        is("three by two", Check.table("figure 0 2 4;figure 5 2 0 4;").round(), 6);
        is("never", Check.table("figure 0 2;").round(), NONE);
        is("behind 1", Check.table("figure 1 2 4;goes 0<hour;").round(), 1);
        is("200", Check.table("figure 1 2 4;goes hour=0 or hour=199;").round(), 200);
        is("201", Check.table("figure 1 4 0 2;goes hour=0 or hour=200;").round(), NONE);
        TownTable x = Check.table("figure 0 2 2 4 4;");
        x.hours(1);
        is("the cell of now", x.round(), 2);
        is("the hour stays", x.count(4), 1);
    }

    private static void p19Spread() {
        TownTable x = Check.table(TOWN);
        is("0 hours", x.spread(0, 0), 1);
        is("three", x.spread(0, 3), 4);
        is("six", x.spread(0, 6), 6);
        is("100", x.spread(1, 100), 4);
        is("who stays", x.spread(2, 100), 1);
        call("no such", () -> x.spread(3, 0), NSE);
        call("no such ahead", () -> x.spread(-1, 101), NSE);
        call("101", () -> x.spread(0, 101), IAE);
        call("-1", () -> x.spread(0, -1), IAE);
        is("behind the last hour", Check.table("figure 0 2;goes hour=99;").spread(0, 100), 2);
        is("not behind one more", Check.table("figure 0 2;goes hour=99;").spread(0, 99), 1);
        is("cells beyond 32", Check.table("table 6 6;figure 30 2;").spread(0, 9), 6);
    }

    private static void p20Way() {
        TownTable x = Check.table("table 4 3;wall 5;wall 6;wall 11;");
        is("straight", x.way(0, 3, 0), 3);
        is("round", x.way(4, 7, 0), 5);
        is("the least first step", x.way(4, 7, 1), 0);
        is("to itself", x.way(4, 4, 0), 0);
        is("no first step", x.way(4, 4, 1), NONE);
        is("to a wall", x.way(4, 5, 0), NONE);
        is("to a wall", x.way(4, 5, 1), NONE);
        is("a wall to itself", x.way(5, 5, 0), 0);
        is("no first step", x.way(5, 5, 1), NONE);
        is("from a wall", x.way(5, 9, 0), 1);
        is("its first step", x.way(5, 9, 1), 9);
        is("from a wall not through a wall", x.way(5, 7, 0), 4);
        is("its first step", x.way(5, 7, 1), 1);
        is("from wall to wall", x.way(5, 6, 0), NONE);
        is("from a wall in a corner", x.way(11, 0, 0), 5);
        is("its first step", x.way(11, 0, 1), 7);
        is("of like ones the least", Check.table("table 3 3;").way(4, 0, 1), 1);
        is("of like ones the least", Check.table("table 3 3;").way(0, 4, 1), 1);
        is("of like ones the least", Check.table("table 3 3;").way(4, 8, 1), 5);
        is("of like ones the least", Check.table("table 3 3;").way(5, 6, 1), 4);
        TownTable cut = Check.table("table 3 3;wall 1;wall 3;wall 4;");
        is("cut off", cut.way(0, 8, 0), NONE);
        is("no first step", cut.way(0, 8, 1), NONE);
        is("cut off", cut.way(8, 0, 0), NONE);
        is("from a wall to one cut off", cut.way(1, 0, 0), 1);
        is("a row's end isn't beside the next", Check.table("table 3 3;").way(2, 3, 0), 3);
        is("across", Check.table("table 6 6;").way(0, 35, 0), 10);
        x.wall(4, true);
        is("now", x.way(0, 8, 0), NONE);
        call("what", () -> x.way(0, 0, 2), NSE);
        call("what", () -> x.way(0, 0, -1), NSE);
        call("no such cell", () -> x.way(12, 0, 0), NSE);
        call("no such cell", () -> x.way(0, 12, 0), NSE);
        call("no such cell", () -> x.way(-1, 0, 0), NSE);
        call("no such cell", () -> x.way(0, -1, 0), NSE);
    }

    private static void p21ToStop() {
        TownTable x = Check.table(TOWN);
        is("none", x.toStop(0, 2, 3), NONE);
        is("two", x.toStop(0, 4, 3), 2);
        is("not at all", x.toStop(0, 6, 3), 0);
        is("one", x.toStop(0, 1, 3), 1);
        is("now", x.toStop(0, 0, 0), 0);
        is("not now", x.toStop(0, 1, 0), NONE);
        is("the least", x.toStop(2, 8, 100), 0);
        TownTable y = Check.table("table 6 2;figure 0 2;");
        is("nine", y.toStop(0, 0, 9), 9);
        is("none by ten", y.toStop(0, 0, 10), NONE);
        is("nine", y.toStop(0, 1, 10), 9);
        y.stop(0, 5);
        is("no more", y.toStop(0, 3, 3), 0);
        is("in place", y.toStop(0, 2, 3), 1);
        figures("now stays", y, 3, 5);
        TownTable dull = Check.table("figure 0 2;light 0 9;");
        is("dull hours count, dull now", dull.toStop(0, 1, 2), 2);
        is("one goes on when dull", dull.toStop(0, 2, 3), 2);
        is("none", dull.toStop(0, 1, 3), NONE);
        TownTable far = Check.table("figure 0 2;goes hour=99;");
        is("behind 100", far.toStop(0, 1, 100), 0);
        call("no such", () -> x.toStop(3, 0, 0), NSE);
        call("no such ahead", () -> x.toStop(-1, 0, 101), NSE);
        call("no such cell ahead", () -> x.toStop(0, 12, -1), NSE);
        call("no such cell", () -> x.toStop(0, -1, 0), NSE);
        call("101", () -> x.toStop(0, 0, 101), IAE);
        call("-1", () -> x.toStop(0, 0, -1), IAE);
    }

    private static void p22ToThin() {
        is("none", new TownTable().toThin(60), 0);
        is("alone", Check.table("figure 0 2;").toThin(60), 0);
        is("now", Check.table("figure 0 0;figure 0 0;").toThin(0), 1);
        TownTable x = Check.table("figure 0 2;figure 4 4;figure 15 0;");
        is("not yet", x.toThin(1), 0);
        is("behind two", x.toThin(2), 1);
        TownTable star = Check.table("table 6 2;figure 0 0;figure 1 0;figure 2 0;figure 0 2;");
        is("the one whom all meet", star.toThin(3), 8);
        is("the fewest, the least",
                Check.table("figure 0 0;figure 0 0;figure 0 0;figure 5 0;figure 5 0;").toThin(0), 11);
        is("a crowd but one", Check.table("figure 0 0;figure 0 0;figure 0 0;").toThin(0), 3);
        is("all eight", Check.table("figure 0 0;".repeat(8)).toThin(0), 127);
        is("where others are is as if none were taken",
                Check.table("figure 0 2;figure 1 0;figure 2 0;goes with<1;").toThin(5), 1);
        is("behind 60", Check.table("figure 0 2;figure 1 0;goes hour=59;").toThin(60), 1);
        is("not behind 59", Check.table("figure 0 2;figure 1 0;goes hour=59;").toThin(59), 0);
        call("61", () -> x.toThin(61), IAE);
        call("-1", () -> x.toThin(-1), IAE);
        is("the hour stays", x.count(4), 0);
    }

    private static void seating(String label, TownTable x, int many, int far, int... row) {
        is(label + ": how many", x.seats(0), many);
        is(label + ": how far", x.seats(1), far);
        for (int f = 0; f < row.length; f++) {
            is(label + ": seat of " + f, x.seat(f), row[f]);
        }
    }

    private static void p23Seats() {
        seating("nobody", new TownTable(), 0, 0);
        seating("no seats", Check.table("figure 0 0;"), 0, 0, NONE);
        seating("nobody sits", Check.table("seat 0;"), 0, 0);
        TownTable x = Check.table(TOWN);
        seating("two of three", x, 2, 4, 0, 1, NONE);
        seating("at it", Check.table("figure 3 0;seat 3;"), 1, 0, 0);
        seating("one part of the table", Check.table("table 6 2;wall 8;wall 2;figure 0 0;figure 1 0;seat 0;seat 5;"),
                1, 0, 0, NONE);
        seating("least far together", Check.table("table 6 2;figure 1 0;figure 0 0;seat 0;seat 5;"), 2, 4, 1, 0);
        seating("as many as can, though far",
                Check.table("table 6 2;figure 1 0;figure 4 0;seat 1;seat 0;"), 2, 4, 0, 1);
        seating("the first row", Check.table("table 6 2;figure 0 0;figure 0 0;seat 1;seat 1;"), 2, 2, 0, 1);
        seating("none behind all", Check.table("table 6 2;figure 0 0;figure 0 0;seat 1;"), 1, 1, 0, NONE);
        seating("nearer ahead of the first row", Check.table("table 6 2;figure 0 0;figure 1 0;seat 2;"), 1, 1, NONE, 0);
        seating("cut off", Check.table("table 3 3;wall 1;wall 3;wall 4;figure 0 0;figure 8 0;seat 7;"), 1, 1, NONE, 0);
        seating("all cut off", Check.table("table 3 3;wall 1;wall 3;wall 4;figure 0 0;seat 7;"), 0, 0, NONE);
        seating("another has to give way",
                Check.table("table 3 3;wall 1;wall 3;wall 4;figure 8 0;figure 6 0;seat 0;seat 7;"), 1, 1, 1, NONE);
        seating("eight", Check.table("figure 0 0;".repeat(8) + "seat 1;".repeat(8)), 8, 8, 0, 1, 2, 3, 4, 5, 6, 7);
        seating("crossed", Check.table("table 6 2;figure 5 0;figure 0 0;seat 0;seat 5;"), 2, 0, 1, 0);
        seating("as good by either: the first row",
                Check.table("table 6 2;figure 0 0;figure 1 0;seat 2;seat 3;"), 2, 4, 0, 1);
        call("what", () -> x.seats(2), NSE);
        call("what", () -> x.seats(-1), NSE);
        x.wall(9, true);
        x.wall(10, true);
        x.wall(6, true);
        seating("by walls of now", x, 2, 4, 0, 1, NONE);
        x.wall(7, true);
        seating("by walls of now", x, 1, 1, NONE, 0, NONE);
        x.undo();
        x.hours(2);
        seating("from the cells of now", x, 2, 4, 0, 1, NONE);
    }

    private static void p24Seat() {
        TownTable x = Check.table(TOWN);
        is("which", x.seat(0), 0);
        is("which", x.seat(1), 1);
        is("none", x.seat(2), NONE);
        call("no such", () -> x.seat(3), NSE);
        call("no such", () -> x.seat(-1), NSE);
    }

    private static void p25Note() {
        TownTable x = Check.table(TOWN);
        is("one", x.note(0, 11, 0), 1);
        is("two", x.note(0, 11, 20), 2);
        is("21", x.note(0, 0, 21), NONE);
        is("-1", x.note(0, 0, -1), NONE);
        is("a wall", x.note(2, 5, 3), 3);
        call("no such figure", () -> x.note(3, 0, 0), NSE);
        call("no such figure ahead", () -> x.note(-1, 0, 99), NSE);
        call("no such cell", () -> x.note(0, 12, 0), NSE);
        call("no such cell ahead", () -> x.note(0, -1, 99), NSE);
        for (int i = 4; i <= 8; i++) {
            is("note " + i, x.note(0, 0, 0), i);
        }
        is("there are 8", x.note(0, 0, 0), NONE);
        call("no such figure ahead of that", () -> x.note(3, 0, 0), NSE);
        is("8", x.count(13), 8);
        is("refused", x.count(17), 3);
        is("no act", x.count(12), 0);
        is("acts aren't refused", x.count(16), 0);
    }

    private static void p26Forget() {
        TownTable x = Check.table(TOWN);
        x.forget();
        x.note(0, 11, 0);
        is("not so", x.ahead(2), 0);
        x.forget();
        is("none", x.count(13), 0);
        is("so", x.ahead(2), 1);
        is("one again", x.note(0, 0, 0), 1);
    }

    private static void p27Ahead() {
        is("nobody", new TownTable().ahead(0), 0);
        is("nobody", new TownTable().ahead(1), NONE);
        is("so without", new TownTable().ahead(2), 1);
        TownTable x = Check.table("table 6 6;figure 14 1 2 3 4;figure 0 0;figure 7 2 4;");
        is("all without notes", x.ahead(0), 4);
        is("the first", x.ahead(1), 1);
        x.note(0, 15, 1);
        is("right first", x.ahead(0), 1);
        is("by 1", x.ahead(1), 1);
        is("not without", x.ahead(2), 0);
        x.note(0, 21, 2);
        is("then down", x.ahead(0), 1);
        x.note(2, 7, 0);
        is("now", x.ahead(0), 1);
        x.note(2, 6, 1);
        is("only one is ahead", x.ahead(0), 0);
        is("none", x.ahead(1), NONE);
        x.forget();
        x.note(2, 6, 1);
        is("the third", x.ahead(1), 21);
        is("one", x.ahead(0), 1);
        x.forget();
        x.note(1, 0, 20);
        is("any", x.ahead(0), 4);
        is("without", x.ahead(2), 1);
        x.forget();
        x.note(0, 8, 1);
        is("as it is", x.ahead(2), 1);
        is("some other one's lead", x.ahead(0), 1);
        is("that", x.ahead(1), 21);
        x.hours(1);
        is("behind so many hours from now", x.ahead(2), 0);
        TownTable eight = Check.table("table 6 6;figure 0 1 1 1 1 1 1 1 2;");
        eight.note(0, 1, 1);
        is("seven steps ahead", eight.ahead(1), 7);
        is("one", eight.ahead(0), 1);
        is("lead stays", eight.figure(0, 5), 0);
        TownTable late = Check.table("figure 0 2 0;goes hour=19;");
        late.note(0, 1, 20);
        is("behind 20", late.ahead(0), 1);
        is("not without", late.ahead(2), 0);
        call("what", () -> x.ahead(3), NSE);
        call("what", () -> x.ahead(-1), NSE);
    }

    private static void p28Look() {
        is("nobody", new TownTable().look(0), NONE);
        is("nobody", new TownTable().look(1), 0);
        TownTable x = Check.table("table 6 6;figure 0 0;figure 14 1 2 3 4;figure 7 2 4;");
        is("who could be most about", x.look(0), 1);
        is("at so many", x.look(1), 4);
        x.note(1, 15, 1);
        is("one guess, all are at one cell", x.look(0), 0);
        is("one", x.look(1), 1);
        x.note(1, 0, 0);
        is("no guess", x.look(0), NONE);
        is("none", x.look(1), 0);
        TownTable five = Check.table("table 6 2;figure 0 0;figure 0 2 2 0 0 0;figure 6 2 0;");
        is("behind five hours, three or two steps on", five.look(0), 2);
        is("two cells", five.look(1), 2);
        TownTable six = Check.table("table 6 2;figure 0 0;figure 0 2 2 0 0 0 0;");
        is("five of six hours", six.look(0), 1);
        is("one or two steps on", six.look(1), 2);
        TownTable stays = Check.table("figure 0 0 0;figure 5 0;");
        is("of like ones the least", stays.look(0), 0);
        is("one cell", stays.look(1), 1);
        TownTable alone = Check.table("figure 0 0;figure 5 1;");
        is("one step leaves no other lead", alone.look(0), NONE);
        call("what", () -> x.look(2), NSE);
        call("what", () -> x.look(-1), NSE);
    }

    private static void p29Clouds() {
        TownTable x = Check.table("figure 0 2;figure 10 0;light 9 0;");
        is("not held", x.clouds(0, 1, 1, 5), 10);
        is("not elsewhere", x.clouds(0, 0, 1, 5), 0);
        x.stop(0, 2);
        is("dull with 3 tenths", x.clouds(0, 1, 1, 3), 3);
        is("not dull", x.clouds(0, 0, 1, 3), 7);
        is("both", x.clouds(0, 2, 2, 3), 9);
        is("one of two", x.clouds(0, 1, 2, 3), 42);
        is("neither", x.clouds(0, 0, 2, 3), 49);
        is("free in the third", x.clouds(0, 2, 3, 3), 420);
        is("never dull, whatever light is", x.clouds(0, 0, 2, 0), 100);
        is("always dull, whatever light is", x.clouds(0, 2, 2, 10), 100);
        is("five", x.clouds(1, 10, 5, 4), 100000);
        TownTable rules = Check.table("figure 0 2;light 9 0;goes light<5;");
        is("rules are told light as ever", rules.clouds(0, 1, 2, 10), 100);
        is("rules are told light as ever", rules.clouds(0, 0, 1, 10), 10);
        TownTable sore = Check.table("figure 0 2;hurts 9;goes sore<9;");
        sore.stop(0, 1);
        is("sore stays", sore.clouds(0, 0, 2, 5), 50);
        is("else goes twice", sore.clouds(0, 2, 2, 5), 50);
        is("now stays", sore.count(4), 0);
        call("hours", () -> x.clouds(0, 0, 0, 5), IAE);
        call("hours", () -> x.clouds(0, 0, 6, 5), IAE);
        call("tenths", () -> x.clouds(0, 0, 1, 11), IAE);
        call("tenths", () -> x.clouds(0, 0, 1, -1), IAE);
        call("no such figure ahead", () -> x.clouds(2, 0, 0, 0), NSE);
        call("no such cell ahead", () -> x.clouds(0, 20, 1, 11), NSE);
        call("no such figure", () -> x.clouds(-1, 0, 1, 1), NSE);
        call("no such cell", () -> x.clouds(0, -1, 1, 1), NSE);
    }

    private static void p30Game() {
        TownTable x = Check.table(TOWN);
        is("one rests", x.game(0, 2, 0), 1);
        is("the first is stopped", x.game(0, 2, 1), 10);
        is("seen from the other", x.game(2, 0, 1), 1);
        TownTable far = Check.table("figure 0 0;figure 9 0;");
        is("to be stopped hurts", far.game(0, 1, 0), 1);
        is("neither", far.game(0, 1, 1), 0);
        TownTable idle = Check.table("figure 0 0;figure 9 0;hurts 0;");
        is("all are alike", idle.game(0, 1, 0), 4);
        is("the first", idle.game(0, 1, 1), 0);
        TownTable light = Check.table("figure 0 0;figure 9 0;light 0 9 0 0;");
        is("half of 1 is 0", light.game(0, 1, 0), 4);
        TownTable dull = Check.table("figure 0 0;figure 9 0;light 0;");
        is("dull or not", dull.game(0, 1, 0), 4);
        TownTable third = Check.table("figure 0 0;figure 9 0;figure 0 0;hurts 9;");
        is("others are any others", third.game(0, 1, 1), 0);
        restingCouples();
        call("both are one", () -> x.game(1, 1, 0), IAE);
        call("what ahead", () -> x.game(1, 1, 2), NSE);
        call("what", () -> x.game(0, 1, -1), NSE);
        call("no such", () -> x.game(3, 0, 0), NSE);
        call("no such", () -> x.game(0, 3, 0), NSE);
        call("no such", () -> x.game(-1, 0, 0), NSE);
        call("no such", () -> x.game(0, -1, 0), NSE);
        is("now stays", x.count(11), 0);
    }

    private static void game(String text, int many, int first) {
        TownTable x = Check.table(text);
        is("couples that rest: " + text, x.game(0, 1, 0), many);
        is("the first: " + text, x.game(0, 1, 1), first);
    }

    private static void restingCouples() {
        game("table 6 2;figure 0 2;figure 1 2;", 1, 0);
        game("table 6 2;figure 0 2;figure 0 2;hurts 0;", 2, 0);
        game("table 3 2;figure 3 1;figure 0 2;", 1, 1);
        game("table 4 2;figure 3 4;figure 2 2;hurts 2;", 1, 10);
        game("table 4 2;figure 2 2;figure 3 4;hurts 2;", 1, 1);
        game("table 4 2;figure 3 4;figure 2 2;", 2, 1);
        game("table 3 2;figure 1 3;figure 3 2;hurts 0;", 3, 0);
        game("table 3 2;figure 1 3;figure 1 0 2;", 1, 11);
        game("table 3 2;figure 3 2;figure 3 4;hurts 0;", 2, 10);
        game("table 4 2;figure 3 4;figure 2 4;figure 2 2 1;goes with;", 0, NONE);
    }

    private static int[] drawsOf(int seed, int many) {
        int[] draws = new int[many];
        int s = seed;
        for (int i = 0; i < many; i++) {
            s = s * 1103515245 + 12345;
            draws[i] = s >>> 16 & 0x7fff;
        }
        return draws;
    }

    /** A seed whose first draw of 6 is this, and whose second and third ones are these by their numbers. */
    private static int seedFor(int fate, int ofSecond, int second, int ofThird, int third) {
        for (int seed = 0; seed < 1_000_000; seed++) {
            int[] d = drawsOf(seed, 3);
            if (d[0] % 6 == fate && d[1] % ofSecond == second && d[2] % ofThird == third) {
                return seed;
            }
        }
        throw new IllegalStateException("no such seed");
    }

    private static void p31Years() {
        TownTable x = Check.table("table 2 2;figure 0 2 4;figure 3 0;figure 3 0;wall 2;");
        is("no hours", x.years(7, 0, 0), 0);
        is("sore", x.years(7, 0, 1), 0);
        is("cells", x.years(7, 0, 2), 2);
        TownTable pair = Check.table("figure 0 0;figure 0 0;goes 0;");
        is("both at one cell", pair.years(seedFor(3, 2, 0, 2, 0), 1, 0), 1);
        int hold = seedFor(0, 3, 1, 4, 3);
        is("held for three", x.years(hold, 1, 1), 1);
        is("held for none", x.years(seedFor(0, 3, 1, 4, 0), 1, 1), 0);
        int lift = seedFor(1, 3, 1, 4, 1);
        is("lifted to 1, where 0 comes", x.years(lift, 1, 2), 2);
        is("in a cell with it", x.years(lift, 1, 0), 1);
        TownTable apart = Check.table("table 2 2;figure 0 0;figure 3 0;");
        is("apart", apart.years(seedFor(1, 2, 1, 4, 2), 1, 0), 0);
        is("together", apart.years(seedFor(1, 2, 1, 4, 0), 1, 0), 1);
        is("one cell", apart.years(seedFor(1, 2, 1, 4, 0), 1, 2), 1);
        TownTable walled = Check.table("table 2 2;figure 0 0;figure 3 0;wall 1;");
        walled.stop(1, 5);
        is("not to a wall, held still", walled.years(seedFor(1, 2, 1, 4, 1), 1, 1), 1);
        is("lifted is held no more", walled.years(seedFor(1, 2, 1, 4, 2), 1, 1), 0);
        is("lifted to its cell, too", walled.years(seedFor(1, 2, 1, 4, 3), 1, 1), 0);
        is("in place of what is left", walled.years(seedFor(0, 2, 1, 4, 0), 1, 1), 0);
        TownTable sore = Check.table("table 2 2;figure 0 0;figure 3 0;hurts 4;");
        sore.stop(0, 1);
        sore.stop(1, 1);
        sore.hours(1);
        is("brushed", sore.years(seedFor(2, 2, 1, 1, 0), 1, 1), 4);
        is("nothing", sore.years(seedFor(4, 2, 1, 1, 0), 1, 1), 8);
        is("nothing", sore.years(seedFor(5, 2, 1, 1, 0), 1, 1), 8);
        is("pence stay", sore.count(7), 2);
        is("now stays", sore.count(4), 1);
        TownTable dull = Check.table("table 2 2;figure 0 0;figure 3 0;light 0 9;");
        is("held when dull", dull.years(hold(), 2, 1), 1);
        yearsByDraws();
        is("nobody", new TownTable().years(1, 100, 0), 0);
        is("nobody", new TownTable().years(1, 100, 1), 0);
        is("nobody", new TownTable().years(1, 100, 2), 0);
        call("what", () -> x.years(1, 1, 3), NSE);
        call("what ahead", () -> x.years(1, 101, -1), NSE);
        call("101", () -> x.years(1, 101, 0), IAE);
        call("-1", () -> x.years(1, -1, 0), IAE);
    }

    /** A seed by which figure 1 of two is held for three hours, and nothing befalls in the second one. */
    private static int hold() {
        for (int seed = 0; seed < 1_000_000; seed++) {
            int[] d = drawsOf(seed, 4);
            if (d[0] % 6 == 0 && d[1] % 2 == 1 && d[2] % 4 == 3 && d[3] % 6 > 2) {
                return seed;
            }
        }
        throw new IllegalStateException("no such seed");
    }

    /** Four who stay, told by the draws alone: where they are lifted to, and for how long they are held. */
    private static void yearsByDraws() {
        TownTable x = Check.table("table 3 3;wall 4;figure 0 0;figure 1 0;figure 2 0;figure 3 0;");
        for (int seed : new int[] {0, 1, -1, 12345, Integer.MIN_VALUE, Integer.MAX_VALUE, 987654321}) {
            int[] d = drawsOf(seed, 300);
            int[] cell = {0, 1, 2, 3};
            int[] held = new int[4];
            int[] sore = new int[4];
            int at = 0;
            int crowded = 0;
            for (int hour = 1; hour <= 100; hour++) {
                int fate = d[at++] % 6;
                if (fate < 3) {
                    int who = d[at++] % 4;
                    if (fate == 0) {
                        held[who] = d[at++] % 4;
                    } else if (fate == 1) {
                        int to = d[at++] % 9;
                        held[who] = to == 4 ? held[who] : 0;
                        cell[who] = to == 4 ? cell[who] : to;
                    } else {
                        sore[who] = 0;
                    }
                }
                int places = 0;
                for (int f = 0; f < 4; f++) {
                    sore[f] += held[f] > 0 ? 1 : 0;
                    held[f] -= held[f] > 0 ? 1 : 0;
                    places |= 1 << cell[f];
                }
                crowded += Integer.bitCount(places) < 4 ? 1 : 0;
                is("crowded hours of " + hour, x.years(seed, hour, 0), crowded);
                is("sore behind " + hour, x.years(seed, hour, 1), sore[0] + sore[1] + sore[2] + sore[3]);
                is("cells behind " + hour, x.years(seed, hour, 2), Integer.bitCount(places));
            }
        }
    }

    private static void p32Later() {
        TownTable x = Check.table(TOWN);
        is("busiest of one", x.later(1, 0), 1);
        is("busiest of five", x.later(5, 0), 8);
        is("none", new TownTable().later(9, 0), NONE);
        is("each counted", Check.table("figure 3 0;figure 3 0;figure 1 0;").later(4, 0), 3);
        is("of like ones the least", Check.table("figure 3 0;figure 1 0;").later(100, 0), 1);
        is("ends alone", Check.table("figure 3 2;").later(1, 0), 4);
        call("busiest of 0", () -> x.later(0, 0), IAE);
        call("busiest of 101", () -> x.later(101, 0), IAE);
        is("sorest of none", x.later(100, 1), NONE);
        is("sorest without figures", new TownTable().later(0, 1), NONE);
        x.stop(1, 2);
        is("none now", x.later(0, 1), NONE);
        is("the second", x.later(1, 1), 1);
        x.stop(0, 2);
        is("of like ones the least", x.later(2, 1), 0);
        TownTable more = Check.table("figure 0 0;figure 1 0;");
        more.stop(0, 1);
        more.stop(1, 2);
        is("of like ones", more.later(1, 1), 0);
        is("most", more.later(2, 1), 1);
        TownTable y = Check.table("figure 0 2;figure 4 4;figure 15 0;");
        is("alone now", y.later(0, 2), 7);
        is("alone at first", y.later(1, 2), 7);
        is("then not", y.later(2, 2), 4);
        is("nor later", y.later(100, 2), 4);
        is("not alone now", Check.table("figure 0 2;figure 0 0;").later(0, 2), 0);
        is("not alone though parted", Check.table("figure 0 2;figure 0 0;").later(3, 2), 0);
        is("stuck now", y.later(0, 3), 7);
        is("who stays", y.later(1, 3), 4);
        is("not who comes back", Check.table("figure 0 2 4;figure 1 0;").later(2, 3), 2);
        is("nobody", new TownTable().later(0, 3), 0);
        is("nobody", new TownTable().later(5, 2), 0);
        is("all eight", Check.table("figure 0 0;".repeat(8)).later(5, 3), 255);
        for (int what = 1; what <= 3; what++) {
            int asked = what;
            call("-1", () -> x.later(-1, asked), IAE);
            call("101", () -> x.later(101, asked), IAE);
            call("100", () -> x.later(100, asked) < NSE ? 1 : 0, 1);
        }
        call("what", () -> x.later(1, 4), NSE);
        call("what ahead", () -> x.later(101, -1), NSE);
        is("the hour stays", x.count(4), 0);
    }

    private static void p33Together() {
        TownTable x = Check.table("figure 0 2;figure 3 0;figure 4 4;");
        is("not in two", x.together(0, 1, 2), 0);
        is("in the third", x.together(0, 1, 3), 1);
        is("once", x.together(0, 1, 100), 1);
        is("in the second", x.together(0, 2, 2), 1);
        is("not now", Check.table("figure 0 2;figure 0 0;").together(0, 1, 1), 0);
        is("always", Check.table("figure 0 0;figure 0 0;").together(0, 1, 100), 100);
        is("with itself", x.together(1, 1, 7), 7);
        call("0", () -> x.together(0, 1, 0), IAE);
        call("101", () -> x.together(0, 1, 101), IAE);
        call("no such ahead", () -> x.together(3, 0, 0), NSE);
        call("no such ahead", () -> x.together(0, 3, 101), NSE);
        call("no such", () -> x.together(-1, 0, 1), NSE);
        call("no such", () -> x.together(0, -1, 1), NSE);
    }

    private static void p34Quiet() {
        TownTable x = Check.table(TOWN);
        is("one comes by", x.quiet(1, 5), 3);
        is("left", x.quiet(0, 2), 2);
        is("one comes", x.quiet(0, 5), 2);
        is("never", x.quiet(8, 100), 0);
        is("a wall", x.quiet(5, 100), 100);
        is("one", x.quiet(1, 1), 0);
        is("nobody", new TownTable().quiet(19, 7), 7);
        call("0", () -> x.quiet(0, 0), IAE);
        call("101", () -> x.quiet(0, 101), IAE);
        call("no such ahead", () -> x.quiet(12, 0), NSE);
        call("no such ahead", () -> x.quiet(-1, 101), NSE);
    }

    private static void p35Gone() {
        TownTable x = Check.table(TOWN);
        is("0", x.gone(0, 0), 0);
        is("one", x.gone(0, 1), 1);
        is("six", x.gone(0, 6), 5);
        is("to the wall", x.gone(1, 100), 3);
        is("who stays", x.gone(2, 100), 0);
        is("to and fro", Check.table("figure 0 2 4;").gone(0, 100), 100);
        call("-1", () -> x.gone(0, -1), IAE);
        call("101", () -> x.gone(0, 101), IAE);
        call("no such ahead", () -> x.gone(3, 101), NSE);
        call("no such ahead", () -> x.gone(-1, -1), NSE);
    }

    private static void p36Image() {
        TownTable x = Check.table(TOWN);
        x.stop(0, 3);
        x.hours(1);
        x.wall(10, true);
        x.note(0, 0, 0);
        x.image();
        x.hours(1);
        x.brush(0);
        x.undo();
        x.undo();
        x.undo();
        x.undo();
        x.lift(2, 9);
        x.forget();
        x.note(1, 1, 1);
        x.note(1, 2, 1);
        yes("restored", x.restore());
        counts("as the image", x, 3, 2, 4, 3, 1, 5, 0, 1, 2, 1, 1, 1, 3, 1, 0, 0, 0, 0);
        figures("cells", x, 0, 0, 2, 8);
        figures("sore", x, 2, 1, 0, 0);
        figures("held", x, 3, 2, 0, 0);
        is("wall", x.cell(10, 0), 1);
        is("what is noted", x.ahead(2), 1);
        is("acts", x.undo(), 2);
        is("no wall", x.cell(10, 0), 0);
        is("acts", x.undo(), 1);
        is("hour", x.count(4), 0);
        is("acts", x.undo(), 0);
        is("pence", x.count(7), 0);
        x.image();
        yes("in place of another", x.restore());
        is("acts of the other", x.count(12), 0);
        TownTable y = Check.table(TOWN);
        y.note(0, 1, 1);
        y.note(1, 1, 2);
        y.image();
        y.forget();
        y.note(2, 3, 4);
        y.note(2, 3, 4);
        is("not so", y.ahead(2), 0);
        y.restore();
        is("so, as it was noted", y.ahead(2), 1);
        y.note(1, 1, 3);
        is("not so", y.ahead(2), 0);
        y.restore();
        is("so again", y.ahead(2), 1);
    }

    private static void p37Restore() {
        TownTable x = Check.table(TOWN);
        no("none", x.restore());
        x.image();
        x.hours(5);
        x.hours(99);
        x.note(0, 0, 99);
        Check.tape(x, "wall");
        yes("once", x.restore());
        is("hour", x.count(4), 0);
        is("refused acts stay", x.count(16), 1);
        is("refused notes stay", x.count(17), 1);
        is("the tape stays", x.count(14), 20);
        x.hours(7);
        yes("again", x.restore());
        is("hour", x.count(4), 0);
        is("undo", x.undo(), NONE);
        x.hours(1);
        is("an act", x.undo(), 0);
        x.town(0);
        no("gone with the town", x.restore());
        TownTable y = new TownTable();
        for (int i = 0; i < 45; i++) {
            y.hours(1);
        }
        y.image();
        for (int i = 0; i < 50; i++) {
            y.hours(2);
        }
        y.restore();
        for (int i = 39; i >= 0; i--) {
            is("undone", y.undo(), i);
            is("hour", y.count(4), 5 + i);
        }
        is("none", y.undo(), NONE);
        TownTable fault = Check.table(TOWN);
        fault.image();
        fault.hours(1);
        Check.town(fault, "x");
        yes("a text with a fault leaves it", fault.restore());
        is("hour", fault.count(4), 0);
        is("the fault stays", fault.fault(), 0);
    }

    /** Eight of all that there are eight of, in the last cell of the largest table. */
    private static void eightOfAll() {
        TownTable x = Check.table("table 6 6;" + "figure 35 1 4 1 4 2 3 2 3;".repeat(8) + "seat 35;".repeat(8)
                + "light 9 8 7 6 5 4 3 2;");
        for (int i = 0; i < 8; i++) {
            is("stopped", x.stop(i, 9), i + 1);
            is("noted", x.note(i, 35, 9), i + 1);
        }
        figures("others", x, 6, 7, 7, 7, 7, 7, 7, 7, 7);
        is("figures", x.cell(35, 1), 255);
        is("seats", x.cell(35, 2), 255);
        is("seen", x.cell(5, 3), 255);
        is("held", x.count(11), 255);
        is("sore of all", x.years(0, 0, 1), 0);
        seating("all", x, 8, 0, 0, 1, 2, 3, 4, 5, 6, 7);
        is("to thin", x.toThin(60), 127);
        is("busiest", x.later(7, 0), 35);
        is("sorest", x.later(7, 1), 0);
        is("alone", x.later(7, 2), 0);
        is("stuck", x.later(7, 3), 255);
        is("off the table in the dull hour", x.later(9, 3), 255);
        is("then goes", x.later(10, 3), 0);
        is("crowd", x.crowd(100, 0), 8);
        is("behind all", x.then(7, 7, 1), 7);
        is("those that go off the table in the dull hour", x.ahead(0), 24);
        is("the first", x.ahead(1), 5);
        x.forget();
        is("guesses", x.ahead(0), 56);
        is("the first", x.ahead(1), 1);
        is("who", x.look(0), 0);
        is("held by all leads", x.look(1), 1);
        is("clouds", x.clouds(7, 35, 5, 0), 100000);
        is("game", x.game(6, 7, 0) > 0 ? 1 : 0, 1);
        is("round", x.round(), 1);
        is("hours", x.hours(8), 8);
        is("sore of all", x.count(10), 56);
        x.image();
        for (int i = 0; i < 8; i++) {
            is("brushed", x.brush(i), 7);
        }
        x.restore();
        is("sore of all", x.count(10), 56);
        is("years", x.years(5, 100, 2) > 0 ? 1 : 0, 1);
    }

    public static void main(String[] args) {
        p01NewObject();
        p02Feed();
        p03Town();
        p04Fault();
        p05Count();
        p06Figure();
        p07Cell();
        p08Hours();
        hoursOfTheHeld();
        hoursByRules();
        hoursAtEdges();
        p09Stop();
        p10Lift();
        p11Brush();
        p12Wall();
        p13Undo();
        p14Then();
        p15Comes();
        p16Meet();
        p17Crowd();
        p18Round();
        p19Spread();
        p20Way();
        p21ToStop();
        p22ToThin();
        p23Seats();
        p24Seat();
        p25Note();
        p26Forget();
        p27Ahead();
        p28Look();
        p29Clouds();
        p30Game();
        p31Years();
        p32Later();
        p33Together();
        p34Quiet();
        p35Gone();
        p36Image();
        p37Restore();
        eightOfAll();
        Check.end("PromiseTest");
    }
}

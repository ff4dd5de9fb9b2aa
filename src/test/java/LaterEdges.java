/** The sentences of "==== 5." and of promises 32 to 35: what is busy, sore, alone, stuck, together, quiet, gone. */
final class LaterEdges {
    // One that goes to and fro between cells 0 and 1.
    private static final String FRO = "figure 0 2 4;";

    private LaterEdges() { }

    static void run() {
        Edge.of("==== 5");
        busiestAndSorest();
        aloneAndStuck();
        togetherQuietGone();
        later();
        together();
        quietAndGone();
    }

    /** One at cell 0 that goes right in this hour alone. */
    private static String onlyIn(int hour) {
        return "figure 0 2;goes hour=" + hour + ";";
    }

    private static void busiestAndSorest() {
        Edge.says("(If only HOURS go by, from now on:) BUSIEST of so many HOURS (1 to 100): the CELL at which FIGURES "
                + "are most often at the ends of these, each counted (of like ones the least); none without any.");
        Edge.is("nobody", new TownTable().later(1, 0), Edge.NONE);
        Edge.is("nobody for long", new TownTable().later(100, 0), Edge.NONE);
        Edge.is("the end of one hour, not now", Edge.town(FRO).later(1, 0), 1);
        Edge.is("of like ones the least", Edge.town(FRO).later(2, 0), 0);
        Edge.is("the end of 99", Edge.town(FRO).later(99, 0), 1);
        Edge.is("of 100", Edge.town(FRO).later(100, 0), 0);
        Edge.is("each counted", Edge.town("figure 1 0;figure 3 0;figure 3 0;").later(1, 0), 3);
        Edge.is("the last cell", Edge.town("table 6 6;figure 35 0;").later(100, 0), 35);
        // At 1 for fifty ends, then at 0: both are alike in 100 hours, and 1 is ahead in 99.
        Edge.is("fifty and fifty", Edge.town("figure 1 4;goes hour=50;").later(100, 0), 0);
        Edge.is("one more at 1", Edge.town("figure 1 4;goes hour=50;").later(99, 0), 1);
        TownTable asked = Edge.town("figure 1 4;goes hour=50;");
        Edge.is("one more at 1", asked.later(99, 0), 1);
        Edge.is("asked again", asked.later(100, 0), 0);
        Edge.is("and again", asked.later(99, 0), 1);
        TownTable late = Edge.town("figure 0 2;");
        late.hours(2);
        Edge.asks("from now on", late, t -> t.later(1, 0), 3);
        Edge.says("SOREST behind so many HOURS (0 to 100): which FIGURE is most SORE (of like ones the least); "
                + "none, if none is.");
        Edge.is("nobody", new TownTable().later(0, 1), Edge.NONE);
        TownTable x = Edge.town("figure 0 0;figure 0 0;figure 0 0;");
        Edge.is("none is", x.later(100, 1), Edge.NONE);
        x.stop(1, 2);
        x.stop(2, 3);
        Edge.is("none is now", x.later(0, 1), Edge.NONE);
        Edge.is("of like ones the least", x.later(1, 1), 1);
        Edge.is("of like ones the least", x.later(2, 1), 1);
        Edge.is("the most", x.later(3, 1), 2);
        Edge.is("behind 100", x.later(100, 1), 2);
        x.stop(0, 4);
        Edge.is("the first, behind four", x.later(4, 1), 0);
        x.undo();
        TownTable eight = Edge.town("figure 0 0;".repeat(8));
        Edge.is("none of eight", eight.later(9, 1), Edge.NONE);
        eight.stop(7, 1);
        Edge.is("the eighth", eight.later(9, 1), 7);
        x.hours(3);
        Edge.asks("now", x, t -> t.later(0, 1), 2);
    }

    private static void aloneAndStuck() {
        Edge.says("ALONE in so many HOURS (0 to 100): FIGURES that are with no other one now, nor behind any of these "
                + "(bits).");
        Edge.is("nobody", new TownTable().later(100, 2), 0);
        Edge.is("one", Edge.town(FRO).later(100, 2), 1);
        Edge.is("now", Edge.town("figure 0 0;figure 0 2;figure 9 0;").later(0, 2), 4);
        Edge.is("now, though parted then", Edge.town("figure 0 0;figure 0 2;figure 9 0;").later(1, 2), 4);
        Edge.is("not behind 99", Edge.town("figure 1 0;figure 9 0;" + onlyIn(99)).later(99, 2), 7);
        Edge.is("behind 100", Edge.town("figure 1 0;figure 9 0;" + onlyIn(99)).later(100, 2), 2);
        Edge.is("not by the 101st hour", Edge.town("figure 1 0;figure 9 0;" + onlyIn(100)).later(100, 2), 7);
        Edge.is("only in between", Edge.town("figure 0 2;figure 1 0;").later(2, 2), 0);
        Edge.is("all eight", Edge.town("figure 0 0;figure 1 0;figure 2 0;figure 3 0;figure 4 0;figure 5 0;figure 6 0;"
                + "figure 7 0;").later(100, 2), 255);
        Edge.says("STUCK in so many HOURS (0 to 100): FIGURES that are at their CELL of now behind all of these "
                + "(bits).");
        Edge.is("nobody", new TownTable().later(100, 3), 0);
        Edge.is("behind none", Edge.town(FRO + "figure 1 2;").later(0, 3), 3);
        Edge.is("who goes", Edge.town(FRO + "figure 1 0;").later(1, 3), 2);
        Edge.is("who has come back was away", Edge.town(FRO + "figure 1 0;").later(2, 3), 2);
        Edge.is("by a wall, off the table", Edge.town("wall 1;figure 0 2;figure 5 4;figure 6 2;").later(100, 3), 3);
        Edge.is("not behind 99", Edge.town(onlyIn(99)).later(99, 3), 1);
        Edge.is("behind 100", Edge.town(onlyIn(99)).later(100, 3), 0);
        Edge.is("all eight", Edge.town("figure 0 0;".repeat(8)).later(100, 3), 255);
        TownTable now = Edge.town("table 6 2;figure 0 2;");
        now.hours(5);
        Edge.is("the cell of now", now.later(100, 3), 1);
    }

    private static void togetherQuietGone() {
        Edge.says("TOGETHER: in how many of so many HOURS (1 to 100) two are at one CELL at the end.");
        Edge.is("now doesn't count", Edge.town("figure 0 2;figure 0 0;").together(0, 1, 1), 0);
        Edge.is("the end of one", Edge.town("figure 0 2;figure 1 0;").together(0, 1, 1), 1);
        Edge.is("fifty", Edge.town(FRO + "figure 1 0;").together(0, 1, 100), 50);
        Edge.is("all", Edge.town("figure 0 0;figure 0 0;").together(0, 1, 100), 100);
        Edge.is("the end of 100", Edge.town("figure 1 0;" + onlyIn(99)).together(0, 1, 100), 1);
        Edge.is("not of 99", Edge.town("figure 1 0;" + onlyIn(99)).together(0, 1, 99), 0);
        Edge.says("QUIET: in how many of so many HOURS (1 to 100) nobody is at a CELL at the end.");
        Edge.is("nobody at all", new TownTable().quiet(0, 100), 100);
        Edge.is("now doesn't count", Edge.town("figure 0 2;").quiet(0, 1), 1);
        Edge.is("the end of one", Edge.town("figure 0 2;").quiet(1, 1), 0);
        Edge.is("never", Edge.town("figure 0 0;").quiet(0, 100), 0);
        Edge.is("a wall", Edge.town("wall 1;figure 0 2;").quiet(1, 100), 100);
        Edge.is("the end of 100", Edge.town(onlyIn(99)).quiet(1, 100), 99);
        Edge.is("not of 99", Edge.town(onlyIn(99)).quiet(1, 99), 99);
        Edge.is("the last cell", Edge.town("table 6 6;figure 35 4 2;").quiet(35, 100), 50);
        Edge.says("GONE in so many HOURS (0 to 100): in how many of these a FIGURE is at another CELL at the end than "
                + "at the beginning.");
        Edge.is("none", Edge.town(FRO).gone(0, 0), 0);
        Edge.is("one", Edge.town(FRO).gone(0, 1), 1);
        Edge.is("all, though it comes back", Edge.town(FRO).gone(0, 100), 100);
        Edge.is("to the table's end", Edge.town("table 6 2;figure 0 2;").gone(0, 100), 5);
        Edge.is("never", Edge.town("figure 0 0;").gone(0, 100), 0);
        Edge.is("in the 100th hour", Edge.town(onlyIn(99)).gone(0, 100), 1);
        Edge.is("not in 99", Edge.town(onlyIn(99)).gone(0, 99), 0);
        Edge.says("The constants: `NONE = -1`: There is none.");
        Edge.is("NONE", TownTable.NONE, -1);
        Edge.is("there is none", new TownTable().undo(), -1);
    }

    private static void later() {
        Edge.of("Promise 32");
        Edge.says("BUSIEST (what 0; NONE; hours 1 to 100), SOREST (1; NONE), ALONE (2; bits), STUCK (3; bits).");
        TownTable x = Edge.town("figure 0 0;figure 3 2;figure 0 0;figure 19 0;");
        x.stop(2, 1);
        int[] due = {0, 2, 10, 13};
        for (int what = 0; what <= 3; what++) {
            Edge.is("one hour, what " + what, x.later(1, what), due[what]);
            Edge.is("a hundred, what " + what, x.later(100, what), due[what]);
            Edge.is("nobody, what " + what, new TownTable().later(1, what), what < 2 ? Edge.NONE : 0);
        }
        Edge.asks("now", Edge.town("figure 0 0;figure 0 0;"), t -> t.later(0, 3), 3);
        Edge.says("NoSuchElementException: another what.");
        for (int what : new int[] {-1, 4, Edge.LOW, Edge.FAR}) {
            Edge.throwsBoth(what + " for what", t -> t.later(1, what), Edge.NSE);
            Edge.call("ahead of wrong hours", () -> x.later(101, what), Edge.NSE);
            Edge.call("ahead of no hours", () -> x.later(0, what), Edge.NSE);
        }
        Edge.says("IllegalArgumentException (behind that): hours.");
        for (int what = 0; what <= 3; what++) {
            int asked = what;
            for (int hours : Edge.outside(what == 0 ? 1 : 0, 100)) {
                Edge.throwsBoth(hours + " hours, what " + what, t -> t.later(hours, asked), Edge.IAE);
                Edge.call("nobody is there", () -> new TownTable().later(hours, asked), Edge.IAE);
            }
        }
    }

    private static void together() {
        Edge.of("Promise 33");
        Edge.says("TOGETHER.");
        TownTable x = Edge.town("figure 0 2;figure 4 4;figure 4 4;");
        Edge.asks("in the second hour", x, t -> t.together(0, 1, 100), 1);
        Edge.is("the other way round", x.together(1, 0, 100), 1);
        Edge.is("always", x.together(1, 2, 100), 100);
        Edge.is("with itself", x.together(1, 1, 100), 100);
        Edge.says("IllegalArgumentException (behind NoSuchElementException): not 1 to 100.");
        for (int hours : Edge.outside(1, 100)) {
            Edge.throwsBoth(hours + " hours", t -> t.together(0, 1, hours), Edge.IAE);
            Edge.throwsBoth(hours + " hours with itself", t -> t.together(1, 1, hours), Edge.IAE);
            Edge.call("no such figure ahead", () -> x.together(3, 0, hours), Edge.NSE);
            Edge.call("no such other ahead", () -> x.together(0, 3, hours), Edge.NSE);
        }
    }

    private static void quietAndGone() {
        Edge.of("Promise 34");
        Edge.says("QUIET.");
        TownTable x = Edge.town(Edge.TOWN);
        Edge.is("two come by", x.quiet(1, 5), 3);
        Edge.asks("a wall", x, t -> t.quiet(5, 100), 100);
        Edge.says("IllegalArgumentException (behind NoSuchElementException): not 1 to 100.");
        for (int hours : Edge.outside(1, 100)) {
            Edge.throwsBoth(hours + " hours", t -> t.quiet(0, hours), Edge.IAE);
            Edge.call("no such cell ahead", () -> x.quiet(12, hours), Edge.NSE);
            Edge.call("nobody is there", () -> new TownTable().quiet(0, hours), Edge.IAE);
        }
        Edge.of("Promise 35");
        Edge.says("GONE.");
        Edge.asks("five of six", x, t -> t.gone(0, 6), 5);
        Edge.is("none", x.gone(0, 0), 0);
        Edge.says("IllegalArgumentException (behind NoSuchElementException): not 0 to 100.");
        for (int hours : Edge.outside(0, 100)) {
            Edge.throwsBoth(hours + " hours", t -> t.gone(0, hours), Edge.IAE);
            Edge.call("no such figure ahead", () -> x.gone(3, hours), Edge.NSE);
        }
    }
}

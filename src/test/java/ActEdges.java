/** The sentences of "==== 2." and of promises 8 to 13, 36 and 37: an hour, the acts, and what brings them back. */
final class ActEdges {
    private ActEdges() { }

    static void run() {
        heldHours();
        goingHours();
        theActs();
        hours();
        stop();
        lift();
        brush();
        wall();
        undo();
        image();
        restore();
    }

    /** How sore the first figure is that is held for so many hours by a rule. */
    private static int soreBy(String rule, int hours) {
        TownTable x = Edge.town("figure 0 2;" + rule);
        x.stop(0, hours);
        x.hours(hours);
        return x.figure(0, 2);
    }

    private static void heldHours() {
        Edge.of("==== 2");
        Edge.says("An HOUR, FIGURE by FIGURE:");
        Edge.then(Edge.town("figure 0 2;figure 1 4;goes with<1;"), 1, 1, 1);
        Edge.then(Edge.town("figure 1 4;figure 0 2;goes with<1;"), 1, 0, 0);
        Edge.says("one that is HELD, when it isn't DULL, stays:");
        TownTable held = Edge.town("table 6 2;figure 0 2;figure 0 2;light 9 3;");
        held.stop(0, 2);
        Edge.then(held, 1, 0, 1);
        Edge.then(held, 2, 0, 2);
        Edge.then(held, 3, 1, 3);
        Edge.says("SORE (0 at first) is more by what HURTS gives,");
        Edge.figures(held, 2, 0, 0);
        Edge.is("twice 4", soreBy("hurts 4;", 2), 8);
        Edge.is("who goes isn't sore by it", Edge.town("figure 0 0;hurts 4;").then(0, 9, 1), 0);
        Edge.says("kept to 0 to 9 (without it 1),");
        Edge.is("below 0", soreBy("hurts 0-1;", 2), 0);
        Edge.is("far below 0", soreBy("hurts 4096*4096*128;", 2), 0);
        Edge.is("0", soreBy("hurts 0;", 2), 0);
        Edge.is("9", soreBy("hurts 9;", 2), 18);
        Edge.is("10 is kept to 9", soreBy("hurts 10;", 2), 18);
        Edge.is("9999 is kept to 9", soreBy("hurts 9999;", 1), 9);
        Edge.is("without", soreBy("", 5), 5);
        Edge.says("99 at most.");
        TownTable most = Edge.town("figure 0 0;hurts 9;");
        most.stop(0, 9);
        most.hours(9);
        most.stop(0, 2);
        most.hours(1);
        Edge.figures(most, 2, 90);
        most.hours(1);
        Edge.figures(most, 2, 99);
        most.stop(0, 9);
        Edge.is("no more", most.then(0, 9, 1), 99);
        TownTable past = Edge.town("figure 0 0;hurts 8;");
        past.stop(0, 9);
        past.hours(9);
        past.stop(0, 9);
        Edge.is("96", past.then(0, 3, 1), 96);
        Edge.is("99, not 104", past.then(0, 4, 1), 99);
    }

    private static void goingHours() {
        Edge.says("Any other one (also one that is HELD, when it is DULL), if GOES, by what is so at its turn, "
                + "gives more than 0");
        TownTable dull = Edge.town("figure 0 2;light 9 0;");
        dull.stop(0, 4);
        Edge.then(dull, 1, 0);
        Edge.then(dull, 2, 1);
        Edge.is("not sore by a dull hour", dull.then(0, 2, 1), 1);
        Edge.then(dull, 4, 2);
        TownTable stays = Edge.town("figure 0 2;light 9 0;goes 0;hurts 9;");
        stays.stop(0, 2);
        Edge.then(stays, 2, 0);
        Edge.is("who stays by the rule isn't sore", stays.then(0, 2, 1), 9);
        Edge.then(Edge.town("figure 0 2;goes 1;"), 1, 1);
        Edge.then(Edge.town("figure 0 2;goes 0;"), 1, 0);
        Edge.then(Edge.town("figure 0 2;goes 0-1;"), 1, 0);
        Edge.then(Edge.town("figure 0 2;goes 4096*4096*128;"), 1, 0);
        Edge.then(Edge.town("figure 0 2;goes 4096*4096*128-1;"), 1, 1);
        Edge.then(Edge.town("figure 0 2;figure 0 2;figure 0 2;goes with=1;"), 1, 0, 0, 0);
        Edge.then(Edge.town("figure 0 2;figure 0 2;goes with=1;"), 1, 1, 0);
        Edge.says("(without it: if SORE is below 10), makes the STEP that is next:");
        TownTable nine = Edge.town("figure 0 2;hurts 9;");
        nine.stop(0, 1);
        Edge.then(nine, 2, 1);
        TownTable ten = Edge.town("figure 0 2;hurts 5;");
        ten.stop(0, 2);
        Edge.then(ten, 20, 0);
        TownTable rule = Edge.town("figure 0 2;hurts 5;goes 1;");
        rule.stop(0, 2);
        Edge.then(rule, 4, 2);
        Edge.says("that of its WAY at the place HOUR and its LEAD (0, but where another one is guessed), "
                + "MOD how many it has;");
        TownTable way = Edge.town("table 3 3;figure 4 1 2 3 4 4 3 2 1;figure 0 2 4;figure 2 3;");
        int[][] cells = {{4, 0, 2}, {1, 1, 5}, {2, 0, 8}, {5, 1, 8}, {4, 0, 8}, {3, 1, 8}, {6, 0, 8}, {7, 1, 8},
            {4, 0, 8}, {1, 1, 8}};
        for (int hour = 0; hour < cells.length; hour++) {
            Edge.then(way, hour, cells[hour]);
        }
        TownTable held = Edge.town("table 3 3;figure 4 1 2 3;");
        held.stop(0, 1);
        Edge.then(held, 2, 5);
        Edge.figures(way, 5, 0, 0, 0);
        Edge.says("it stays, if that is off THE TABLE, or a WALL (several may be at one CELL).");
        Edge.then(Edge.town("table 3 3;figure 1 1;figure 5 2;figure 7 3;figure 3 4;"), 9, 1, 5, 7, 3);
        Edge.then(Edge.town("table 3 3;wall 4;figure 7 1;figure 3 2;figure 1 3;figure 5 4;"), 9, 7, 3, 1, 5);
        Edge.then(Edge.town("table 3 3;figure 2 2;figure 3 4;"), 1, 2, 3);
        Edge.then(Edge.town("table 3 3;figure 1 3;figure 3 2;figure 5 4;figure 7 1;"), 1, 4, 4, 4, 4);
        Edge.is("all eight", Edge.town("figure 0 2;".repeat(8)).crowd(3, 0), 8);
        Edge.says("Then each that is HELD, DULL or not, is so for an HOUR less.");
        TownTable less = Edge.town("figure 0 0;figure 0 0;light 9 0;hurts held;");
        less.stop(0, 3);
        less.stop(1, 9);
        for (int hour = 0; hour <= 10; hour++) {
            Edge.is("held behind " + hour, less.then(0, hour, 2), Math.max(0, 3 - hour));
            Edge.is("held behind " + hour, less.then(1, hour, 2), Math.max(0, 9 - hour));
        }
        Edge.is("sore by what is left ahead of that", less.then(0, 9, 1), 3 + 1);
        Edge.says("The HOUR is one more then.");
        Edge.is("one", less.hours(1), 1);
        Edge.is("two", less.hours(1), 2);
        Edge.is("the rule of an hour is told its own", Edge.town("figure 0 2;goes hour=1;").comes(0, 1), 2);
    }

    private static void theActs() {
        Edge.says("ACTS (at most 40 are kept, the latest ones):");
        TownTable many = Edge.town("figure 0 0;");
        for (int i = 1; i <= 43; i++) {
            many.hours(1);
            Edge.is("kept of " + i, many.count(12), Math.min(40, i));
        }
        for (int left = 39; left >= 0; left--) {
            Edge.is("left", many.undo(), left);
        }
        Edge.is("the first three stay", many.count(4), 3);
        Edge.is("no more", many.undo(), Edge.NONE);
        Edge.is("still", many.count(4), 3);
        Edge.says("HOURS go by (1 to 20);");
        Edge.is("one", Edge.town("").hours(1), 1);
        Edge.is("twenty", Edge.town("").hours(20), 20);
        Edge.is("none", Edge.town("").hours(0), Edge.NONE);
        Edge.is("more", Edge.town("").hours(21), Edge.NONE);
        Edge.says("a FIGURE is STOPPED: HELD for 1 to 9 HOURS (in place of what is left), for a PENNY each time;");
        TownTable x = Edge.town(Edge.TOWN);
        x.stop(0, 9);
        x.stop(0, 1);
        x.stop(1, 1);
        x.stop(1, 9);
        Edge.figures(x, 3, 1, 9, 0);
        Edge.is("four of them", x.count(7), 4);
        Edge.is("ten", x.stop(0, 10), Edge.NONE);
        Edge.is("none", x.stop(0, 0), Edge.NONE);
        Edge.says("one is LIFTED to another CELL that is no WALL (HELD no more), for three PENCE;");
        x.lift(1, 0);
        Edge.figures(x, 0, 0, 0, 8);
        Edge.figures(x, 3, 1, 0, 0);
        Edge.is("seven", x.count(7), 7);
        Edge.is("a wall", x.lift(1, 5), Edge.NONE);
        Edge.is("the same cell", x.lift(1, 0), Edge.NONE);
        Edge.says("neither, when it is DULL;");
        x.hours(2);
        Edge.is("dull", x.count(6), 1);
        Edge.is("stop", x.stop(1, 1), Edge.NONE);
        Edge.is("lift", x.lift(1, 9), Edge.NONE);
        x.hours(1);
        Edge.is("by light", x.stop(1, 1), 8);
        Edge.says("one is BRUSHED that is SORE: SORE is 0;");
        Edge.is("not sore", x.brush(2), Edge.NONE);
        Edge.is("sore", x.brush(0), 1);
        Edge.figures(x, 2, 0, 0, 0);
        Edge.says("a WALL is put up (where no FIGURE is, no SEAT), or taken.");
        Edge.yes("put up", x.wall(9, true));
        Edge.yes("taken", x.wall(9, false));
        Edge.no("a figure", x.wall(8, true));
        Edge.no("a seat", x.wall(11, true));
        Edge.says("They are UNDONE, the last one first.");
        Edge.is("eleven acts", x.count(12), 11);
        x.undo();
        Edge.is("a wall again", x.cell(9, 0), 1);
        x.undo();
        Edge.is("none", x.cell(9, 0), 0);
        x.undo();
        Edge.figures(x, 2, 1, 0, 0);
        x.undo();
        Edge.is("a penny less", x.count(7), 7);
    }

    private static void hours() {
        Edge.of("Promise 8");
        Edge.says("HOURS go by: the HOUR.");
        TownTable x = Edge.town(Edge.TOWN);
        Edge.is("one", x.hours(1), 1);
        Edge.figures(x, 0, 1, 2, 8);
        Edge.is("nineteen", x.hours(19), 20);
        Edge.figures(x, 0, 11, 0, 8);
        Edge.is("twenty", x.hours(20), 40);
        Edge.says("NONE (STATUS 1): not 1 to 20,");
        for (int many : new int[] {0, 21, -1, -20, Edge.FAR, Edge.LOW}) {
            Edge.refused("hours(" + many + ")", Edge.town(Edge.TOWN), Edge.ACT, t -> t.hours(many), Edge.NONE);
        }
        Edge.says("it would be above 9999.");
        TownTable late = Edge.town("table 2 2;figure 0 2 3 4 1;");
        Edge.until(late, 9980);
        Edge.refused("10000", late, Edge.ACT, t -> t.hours(20), Edge.NONE);
        TownTable last = Edge.town("table 2 2;figure 0 2 3 4 1;");
        Edge.until(last, 9980);
        Edge.is("9999", last.hours(19), 9999);
        Edge.is("as by 9999 MOD 4", last.figure(0, 0), 2);
        Edge.is("no further", last.hours(1), Edge.NONE);
        Edge.is("refused", last.count(16), 1);
        Edge.is("still", last.count(4), 9999);
        Edge.is("what is foreseen goes on", last.then(0, 1, 0), 0);
        last.undo();
        Edge.is("undone", last.hours(10), 9990);
        Edge.is("above by one", last.hours(10), Edge.NONE);
        Edge.is("not above", last.hours(9), 9999);
    }

    private static void stop() {
        Edge.of("Promise 9");
        Edge.says("STOPPED: PENCE then (9999 at most).");
        TownTable x = Edge.town(Edge.TOWN);
        Edge.is("one", x.stop(0, 1), 1);
        Edge.is("two", x.stop(0, 9), 2);
        Edge.figures(x, 3, 9, 0, 0);
        Edge.is("an act each", x.count(12), 2);
        mostPence();
        Edge.says("NONE (STATUS 1): it is DULL,");
        for (int hours : new int[] {1, 9}) {
            TownTable dull = Edge.town("table 2 2;figure 0 0;light 2;");
            Edge.refused("dull, for " + hours, dull, Edge.ACT, t -> t.stop(0, hours), Edge.NONE);
        }
        Edge.is("as dull as 3 isn't", Edge.town("figure 0 0;light 3;").stop(0, 1), 1);
        Edge.says("not 1 to 9.");
        for (int hours : new int[] {0, 10, -1, Edge.FAR, Edge.LOW}) {
            TownTable held = Edge.town(Edge.TOWN);
            held.stop(0, 5);
            Edge.refused("for " + hours, held, Edge.ACT, t -> t.stop(0, hours), Edge.NONE);
        }
        TownTable both = Edge.town("table 2 2;figure 0 0;light 0;");
        Edge.refused("dull and not 1 to 9 is refused once", both, Edge.ACT, t -> t.stop(0, 10), Edge.NONE);
    }

    /** No object of 512 calls can pay so much; the words hold for one that is used for longer. */
    private static void mostPence() {
        TownTable x = Edge.town("figure 0 0;");
        for (int i = 0; i < 3332; i++) {
            x.lift(0, 1 - i % 2);
        }
        Edge.is("9996", x.count(7), 9996);
        x.stop(0, 1);
        Edge.is("9998", x.stop(0, 1), 9998);
        x.lift(0, 5);
        Edge.is("not 10001", x.count(7), 9999);
        Edge.is("no more", x.stop(0, 1), 9999);
        x.undo();
        x.undo();
        Edge.is("undone", x.count(7), 9998);
    }

    private static void lift() {
        Edge.of("Promise 10");
        Edge.says("LIFTED: the CELL where it was.");
        TownTable x = Edge.town(Edge.TOWN);
        x.stop(0, 5);
        Edge.is("from 0", x.lift(0, 11), 0);
        Edge.is("from 11", x.lift(0, 8), 11);
        Edge.is("with another one", x.figure(0, 6), 1);
        Edge.is("held no more", x.figure(0, 3), 0);
        Edge.is("pence", x.count(7), 7);
        TownTable far = Edge.town("table 6 6;figure 0 0;");
        Edge.is("to the last cell", far.lift(0, 35), 0);
        Edge.is("from it", far.lift(0, 0), 35);
        Edge.says("NONE (STATUS 1): it is DULL, it is there, a WALL.");
        TownTable dull = Edge.town("table 2 2;figure 0 0;wall 3;light 2;");
        Edge.refused("dull", dull, Edge.ACT, t -> t.lift(0, 1), Edge.NONE);
        Edge.refused("dull, and a wall, once", dull, Edge.ACT, t -> t.lift(0, 3), Edge.NONE);
        Edge.refused("there", Edge.town(Edge.TOWN), Edge.ACT, t -> t.lift(0, 0), Edge.NONE);
        Edge.refused("a wall", Edge.town(Edge.TOWN), Edge.ACT, t -> t.lift(0, 5), Edge.NONE);
        TownTable built = Edge.town("table 6 6;figure 0 0;");
        built.wall(35, true);
        Edge.is("a wall that was put up", built.lift(0, 35), Edge.NONE);
        built.wall(35, false);
        Edge.is("and taken", built.lift(0, 35), 0);
    }

    private static void brush() {
        Edge.of("Promise 11");
        Edge.says("BRUSHED: how SORE it was.");
        TownTable x = Edge.town("figure 0 0;figure 1 0;hurts 9;light 5 0;");
        x.stop(0, 1);
        x.hours(1);
        Edge.is("though dull", x.count(6), 1);
        Edge.is("nine", x.brush(0), 9);
        Edge.is("not sore", x.figure(0, 2), 0);
        Edge.is("no pence", x.count(7), 1);
        Edge.is("an act", x.count(12), 3);
        Edge.is("undone", x.undo(), 2);
        Edge.is("sore", x.figure(0, 2), 9);
        TownTable most = Edge.town("figure 0 0;hurts 9;");
        most.stop(0, 9);
        most.hours(9);
        most.stop(0, 9);
        most.hours(9);
        Edge.is("ninety-nine", most.brush(0), 99);
        Edge.says("NONE (STATUS 1): it isn't.");
        Edge.refused("at first", Edge.town(Edge.TOWN), Edge.ACT, t -> t.brush(0), Edge.NONE);
        Edge.refused("twice", most, Edge.ACT, t -> t.brush(0), Edge.NONE);
        Edge.refused("another one", x, Edge.ACT, t -> t.brush(1), Edge.NONE);
    }

    private static void wall() {
        Edge.of("Promise 12");
        Edge.says("A WALL is put up (true), or taken: true.");
        TownTable x = Edge.town("table 6 6;wall 34;figure 0 2;");
        Edge.yes("the last cell", x.wall(35, true));
        Edge.is("is", x.cell(35, 0), 1);
        Edge.yes("taken", x.wall(35, false));
        Edge.is("isn't", x.cell(35, 0), 0);
        Edge.yes("one of the text", x.wall(34, false));
        Edge.yes("one of the lower half", x.wall(2, true));
        Edge.is("only that", x.cell(34, 0), 0);
        Edge.is("how many", x.count(8), 1);
        Edge.is("acts", x.count(12), 4);
        Edge.then(x, 9, 1);
        TownTable dull = Edge.town("light 0;");
        Edge.yes("though dull", dull.wall(0, true));
        Edge.is("no pence", dull.count(7), 0);
        Edge.says("False (STATUS 1): it is so already, a FIGURE or a SEAT is there.");
        Edge.refused("a wall", Edge.town(Edge.TOWN), Edge.ACT, t -> t.wall(5, true) ? 1 : 0, 0);
        Edge.refused("no wall", Edge.town(Edge.TOWN), Edge.ACT, t -> t.wall(1, false) ? 1 : 0, 0);
        Edge.refused("a figure", Edge.town(Edge.TOWN), Edge.ACT, t -> t.wall(8, true) ? 1 : 0, 0);
        Edge.refused("a figure, no wall", Edge.town(Edge.TOWN), Edge.ACT, t -> t.wall(8, false) ? 1 : 0, 0);
        Edge.refused("a seat", Edge.town(Edge.TOWN), Edge.ACT, t -> t.wall(11, true) ? 1 : 0, 0);
        Edge.refused("a seat, no wall", Edge.town(Edge.TOWN), Edge.ACT, t -> t.wall(11, false) ? 1 : 0, 0);
        TownTable gone = Edge.town("figure 0 2;");
        gone.hours(1);
        Edge.no("where one is now", gone.wall(1, true));
        Edge.yes("where one was", gone.wall(0, true));
    }

    private static void undo() {
        Edge.of("Promise 13");
        Edge.says("The last ACT is UNDONE: how many are left.");
        TownTable x = Edge.town(Edge.TOWN);
        String[] states = new String[7];
        Edge.On[] acts = {t -> t.stop(0, 2), t -> t.hours(1), t -> t.lift(1, 7), t -> t.brush(0),
            t -> t.wall(1, true) ? 1 : 0, t -> t.wall(5, false) ? 1 : 0};
        for (int i = 0; i < acts.length; i++) {
            states[i] = world(x);
            acts[i].of(x);
        }
        for (int i = acts.length - 1; i >= 0; i--) {
            Edge.is("left", x.undo(), i);
            String state = world(x);
            Edge.yes("as ahead of act " + i + ": " + states[i] + " is now " + state, state.equals(states[i]));
        }
        undoneWalls();
        x.note(0, 0, 0);
        x.hours(20);
        Edge.is("twenty hours are one act", x.undo(), 0);
        Edge.is("what is noted is no act", x.count(13), 1);
        x.hours(2);
        x.stop(0, 10);
        Edge.is("what was refused is no act", x.undo(), 0);
        Edge.is("the hour", x.count(4), 0);
        Edge.says("NONE: there is none.");
        Edge.refused("none left", Edge.town(Edge.TOWN), Edge.UNCOUNTED, TownTable::undo, Edge.NONE);
        Edge.is("none in a new one", new TownTable().undo(), Edge.NONE);
        TownTable again = Edge.town(Edge.TOWN);
        again.hours(1);
        again.undo();
        Edge.refused("none left behind one", again, Edge.UNCOUNTED, TownTable::undo, Edge.NONE);
        again.hours(3);
        Edge.is("one again", again.undo(), 0);
    }

    /** Walls at both ends of the table and in its middle, put up one by one, then taken, are undone one by one. */
    private static void undoneWalls() {
        int[] cells = {0, 1, 15, 16, 30, 31, 32, 33, 34, 35};
        TownTable x = Edge.town("table 6 6;");
        for (int c : cells) {
            x.wall(c, true);
        }
        for (int c : cells) {
            x.wall(c, false);
        }
        for (int i = cells.length - 1; i >= 0; i--) {
            Edge.is("left", x.undo(), cells.length + i);
            Edge.is("a wall again at " + cells[i], x.cell(cells[i], 0), 1);
            Edge.is("walls", x.count(8), cells.length - i);
        }
        for (int i = cells.length - 1; i >= 0; i--) {
            Edge.is("left", x.undo(), i);
            Edge.is("no wall at " + cells[i], x.cell(cells[i], 0), 0);
            Edge.is("walls", x.count(8), i);
        }
    }

    /** What acts change: the hour, pence, walls, and each figure's cell, how sore it is and for how long held. */
    private static String world(TownTable x) {
        StringBuilder all = new StringBuilder();
        all.append(x.count(4)).append(' ').append(x.count(7)).append(" walls");
        for (int c = 0; c < x.count(2) * x.count(3); c++) {
            all.append(' ').append(x.cell(c, 0));
        }
        for (int f = 0; f < x.count(0); f++) {
            all.append(" figure ").append(x.figure(f, 0)).append(' ').append(x.figure(f, 2)).append(' ')
                    .append(x.figure(f, 3));
        }
        return all.toString();
    }

    private static void image() {
        Edge.of("Promise 36");
        Edge.says("The HOUR, CELLS, SORE, HELD, WALLS, PENCE, ACTS and what is NOTED are kept as an image,");
        TownTable x = Edge.town(Edge.TOWN);
        x.stop(0, 3);
        x.hours(1);
        x.wall(10, true);
        x.note(0, 0, 0);
        String kept = Edge.state(x);
        x.image();
        Edge.is("an image is no act", x.count(12), 3);
        x.lift(1, 9);
        x.hours(5);
        x.brush(0);
        x.wall(5, false);
        x.forget();
        x.note(2, 9, 9);
        x.note(2, 0, 8);
        x.restore();
        String back = Edge.state(x);
        Edge.yes("kept: " + kept + " is now " + back, kept.equals(back));
        Edge.is("what is noted", x.ahead(2), 1);
        Edge.is("the acts themselves", x.undo(), 2);
        Edge.is("no wall", x.cell(10, 0), 0);
        Edge.is("the acts themselves", x.undo(), 1);
        Edge.is("the hour", x.count(4), 0);
        Edge.is("the acts themselves", x.undo(), 0);
        Edge.is("pence", x.count(7), 0);
        fullImage();
        notesOfAnImage();
        Edge.says("in place of another one.");
        x.hours(2);
        x.image();
        x.hours(3);
        x.image();
        x.hours(4);
        x.restore();
        Edge.is("the later one", x.count(4), 5);
        x.undo();
        x.restore();
        Edge.is("and again", x.count(4), 5);
    }

    /** Of each note its figure, its cell and its hours are kept: another one in its place has one of them otherwise. */
    private static void notesOfAnImage() {
        int[][] others = {{1, 4, 2}, {0, 5, 2}, {0, 4, 3}};
        for (int[] other : others) {
            TownTable x = Edge.town("figure 2 2;figure 0 0;");
            x.note(0, 4, 2);
            x.image();
            x.forget();
            x.note(other[0], other[1], other[2]);
            Edge.is("the other one", x.ahead(2), other[2] == 3 ? 1 : 0);
            x.restore();
            Edge.is("so, as it was noted", x.ahead(2), 1);
            x.hours(1);
            Edge.is("behind two hours, at 4 still", x.ahead(2), 1);
            x.undo();
            x.lift(0, 1);
            Edge.is("not so from there in two hours", x.ahead(2), 0);
        }
    }

    /** Forty acts, the oldest of more already gone, and eight notes. */
    private static void fullImage() {
        TownTable x = Edge.town("figure 0 2 4;");
        for (int i = 0; i < 47; i++) {
            x.hours(1);
        }
        for (int i = 0; i < 8; i++) {
            x.note(0, (i + 1) % 2, i);
        }
        x.image();
        for (int i = 0; i < 45; i++) {
            x.hours(2);
        }
        x.forget();
        x.restore();
        Edge.is("eight notes", x.count(13), 8);
        Edge.is("all so", x.ahead(2), 1);
        Edge.is("a ninth", x.note(0, 0, 0), Edge.NONE);
        for (int left = 39; left >= 0; left--) {
            Edge.is("left", x.undo(), left);
            Edge.is("the hour", x.count(4), 7 + left);
        }
        Edge.is("no more", x.undo(), Edge.NONE);
    }

    private static void restore() {
        Edge.of("Promise 37");
        Edge.says("They are as the image again: true.");
        TownTable x = Edge.town(Edge.TOWN);
        x.image();
        x.hours(5);
        x.hours(21);
        x.note(0, 0, 21);
        x.feed(0, 0, 0, 0, 0);
        Edge.yes("once", x.restore());
        Edge.is("the hour", x.count(4), 0);
        Edge.is("no act, nor is it one", x.undo(), Edge.NONE);
        Edge.is("STATUS 1 stays", x.count(16), 1);
        Edge.is("STATUS 2 stays", x.count(17), 1);
        Edge.is("the tape stays", x.count(14), 20);
        x.hours(7);
        Edge.yes("again", x.restore());
        Edge.is("the hour", x.count(4), 0);
        TownTable empty = new TownTable();
        empty.image();
        empty.hours(3);
        Edge.yes("of nobody", empty.restore());
        Edge.is("the hour", empty.count(4), 0);
        Edge.says("False: there is none.");
        Edge.refused("none yet", Edge.town(Edge.TOWN), Edge.UNCOUNTED, t -> t.restore() ? 1 : 0, 0);
        Edge.no("none in a new one", new TownTable().restore());
        TownTable gone = Edge.town(Edge.TOWN);
        gone.image();
        gone.town(0);
        Edge.refused("gone with the town", gone, Edge.UNCOUNTED, t -> t.restore() ? 1 : 0, 0);
        TownTable fault = Edge.town(Edge.TOWN);
        fault.image();
        Check.town(fault, "x");
        Edge.yes("a text with a fault leaves it", fault.restore());
    }
}

/** The sentences of promises 1 to 7: a new object, its tape, its texts, and what it counts. */
final class TapeEdges {
    private static final int BLANKS = 0x20202020;

    private TapeEdges() { }

    static void run() {
        newObject();
        feed();
        town();
        townRefused();
        fault();
        count();
        figure();
        cell();
    }

    private static void newObject() {
        Edge.of("Promise 1");
        Edge.says("5 by 4 CELLS,");
        TownTable x = new TownTable();
        Edge.is("W", x.count(2), 5);
        Edge.is("H", x.count(3), 4);
        Edge.call("the last cell", () -> x.cell(19, 0), 0);
        Edge.call("no cell behind it", () -> x.cell(20, 0), Edge.NSE);
        Edge.is("across", x.way(0, 19, 0), 7);
        Edge.says("no FIGURES.");
        for (int what = 0; what <= 17; what++) {
            int due = what == 2 || what == 5 ? 5 : what == 3 ? 4 : what == 9 ? 1 : 0;
            Edge.is("count(" + what + ")", x.count(what), due);
        }
        Edge.call("no figure 0", () -> x.figure(0, 0), Edge.NSE);
        Edge.is("no fault", x.fault(), Edge.NONE);
        Edge.no("no image", x.restore());
        Edge.is("no act", x.undo(), Edge.NONE);
        x.hours(20);
        Edge.is("another new one has nothing of it", new TownTable().count(4), 0);
    }

    private static void feed() {
        Edge.of("Promise 2");
        Edge.says("Twenty bytes come behind the tape,");
        TownTable x = new TownTable();
        Edge.is("the first twenty", x.feed(BLANKS, BLANKS, BLANKS, BLANKS, 0x20207761), 20);
        Edge.is("twenty behind them", x.feed(0x6c6c2030, 0x3b202020, BLANKS, BLANKS, BLANKS), 40);
        Edge.is("a word over both", x.town(40), 0);
        Edge.is("its wall", x.cell(0, 0), 1);
        Edge.says("of each number the highest first:");
        x.feed(0x77616c6c, 0x20333b77, 0x616c6c20, 0x343b7761, 0x6c6c2035);
        x.feed(0x3b000000, 0, 0, 0, 0);
        Edge.is("wall 3;wall 4;wall 5;", x.town(21), 0);
        Edge.is("walls", x.count(8), 3);
        x.feed(0xffffffff, 0x80808080, 0, 0, 0);
        Edge.is("a byte of 255", x.town(4), 1);
        Edge.is("at it", x.fault(), 0);
        Edge.says("how many it has;");
        for (int i = 1; i <= 35; i++) {
            Edge.is("feed " + i, x.feed(BLANKS, BLANKS, BLANKS, BLANKS, 0x203b203b), 20 * i);
            Edge.is("count " + i, x.count(14), 20 * i);
        }
        Edge.says("NONE, and none come, if it would have more than 700.");
        Edge.refused("the 36th", x, Edge.UNCOUNTED, t -> t.feed(0, 0, 0, 0, 0), Edge.NONE);
        Edge.refused("once more", x, Edge.UNCOUNTED, t -> t.feed(-1, Edge.LOW, Edge.FAR, 0, 0), Edge.NONE);
        Edge.is("700", x.count(14), 700);
        Edge.is("the bytes are as they were", x.town(700), 1);
        Edge.is("the first sign of them", x.fault(), 17);
        Edge.is("room again", x.feed(0, 0, 0, 0, 0), 20);
    }

    /** A town with acts, notes, pence, an image, one that is held and sore, and each STATUS at one. */
    private static TownTable used() {
        TownTable x = Edge.town(Edge.TOWN);
        x.stop(0, 3);
        x.hours(1);
        x.note(0, 0, 0);
        x.stop(0, 10);
        x.note(0, 0, 21);
        x.image();
        Check.town(x, "x");
        return x;
    }

    private static void town() {
        Edge.of("Promise 3");
        Edge.says("The tape's first n bytes");
        TownTable first = new TownTable();
        Check.tape(first, "table 2 3;wall 5;wall 0;");
        Edge.is("seventeen of them", first.town(17), 0);
        Edge.is("one wall", first.count(8), 1);
        Check.tape(first, "wall 12;");
        Edge.is("a number is cut", first.town(6), 1);
        Edge.is("where it ends", first.fault(), 6);
        Edge.is("none of none", first.town(0), 0);
        Check.tape(first, "wall 12;");
        Edge.is("none of some", first.town(0), 0);
        Edge.says("(it is empty then)");
        Edge.is("empty behind none", first.count(14), 0);
        Check.tape(first, "wall 0;wall 1;");
        Edge.is("of seven", first.town(7), 0);
        Edge.is("empty", first.count(14), 0);
        Edge.call("nothing is left of it", () -> first.town(1), Edge.IAE);
        Check.tape(first, "x");
        Edge.is("a fault", first.town(1), 1);
        Edge.is("empty behind a fault, too", first.count(14), 0);
        Edge.says("are a TOWN, all anew: 0,");
        TownTable x = used();
        Edge.is("anew", Check.town(x, "figure 7 2;seat 3;"), 0);
        int[] due = {1, 1, 5, 4, 0, 5, 0, 0, 0, 1, 0, 0, 0, 0, 0};
        for (int what = 0; what < due.length; what++) {
            Edge.is("count(" + what + ")", x.count(what), due[what]);
        }
        Edge.figures(x, 0, 7);
        Edge.figures(x, 2, 0);
        Edge.figures(x, 3, 0);
        Edge.is("no rules, no light of another", x.then(0, 2, 0), 9);
        nothingIsLeft();
        Edge.says("or the FAULT (all stays).");
        for (String wrong : new String[] {"x", "wall 0;wall 0;", "table 6 6;figure 35 0;wall 36;", "goes 1;hurts (;"}) {
            TownTable y = used();
            y.town(0);
            Check.town(y, Edge.TOWN);
            y.stop(1, 2);
            y.image();
            String before = Edge.state(y);
            yesFault(y, wrong);
            String after = Edge.state(y).replaceAll("fault \\d+", "fault -1");
            Edge.yes("all stays: " + before + " is now " + after, before.equals(after));
            Edge.yes("the image stays", y.restore());
            Edge.is("the act stays", y.undo(), 0);
            Edge.is("its way and its light", y.then(0, 4, 0), 7);
        }
    }

    /** One town behind another, and behind texts that broke off where all that a text can tell had been told. */
    private static void nothingIsLeft() {
        String all = "table 6 6;wall 0;figure 1 2;figure 2 2;seat 3;seat 4;seat 5;light 0 1;dull 9;"
                + "goes not 1;hurts not 0;";
        String less = "figure 1 2;seat 3;light 7;dull 7;goes 1;hurts 2;";
        String[] aheads = {all, all + "x", "goes not not (not (1", "goes not x", "hurts ((((((", all + "goes",
            "light 1 x", "figure 0 0;figure 3 0;seat 3;"};
        for (String ahead : aheads) {
            TownTable x = new TownTable();
            for (int i = 0; i < 3; i++) {
                Check.town(x, ahead);
                Edge.is("seated", x.seats(0), Math.min(x.count(0), x.count(1)));
                Edge.is("anew behind " + ahead, Check.town(x, less), 0);
                int[] due = {1, 1, 5, 4, 0, 7, 0, 0, 0, 1, 0, 0, 0, 0, 0};
                for (int what = 0; what < due.length; what++) {
                    Edge.is("count(" + what + ") behind " + ahead, x.count(what), due[what]);
                }
                Edge.is("goes", x.then(0, 2, 0), 3);
                Edge.is("one sits", x.seats(0), 1);
                Edge.is("two away", x.seats(1), 2);
                x.stop(0, 1);
                Edge.is("hurts", x.then(0, 1, 1), 2);
            }
            Edge.is("nothing told", x.town(0), 0);
            Edge.is("nobody", x.count(0), 0);
            Edge.is("no seats", x.count(1), 0);
            Edge.is("light", x.count(5), 5);
            Edge.is("not dull", x.count(6), 0);
        }
    }

    private static void yesFault(TownTable x, String wrong) {
        Edge.yes("a fault in " + wrong, Check.town(x, wrong) > 0);
    }

    private static void townRefused() {
        Edge.says("ACTS, what is NOTED, PENCE, the image are gone");
        TownTable x = used();
        Edge.is("acts", x.count(12), 2);
        Edge.is("noted", x.count(13), 1);
        Edge.is("pence", x.count(7), 1);
        x.town(0);
        Edge.is("no acts", x.count(12), 0);
        Edge.is("nothing to undo", x.undo(), Edge.NONE);
        Edge.is("nothing noted", x.count(13), 0);
        Edge.is("no pence", x.count(7), 0);
        Edge.no("no image", x.restore());
        Edge.says("(STATUS stays).");
        for (int status = 0; status < 3; status++) {
            Edge.is("STATUS " + status, x.count(15 + status), 1);
        }
        Edge.says("IllegalArgumentException: the tape has not so many, n below 0 (nothing changes).");
        int[][] wrong = {{0, 1}, {0, -1}, {0, Edge.FAR}, {0, Edge.LOW}, {1, 21}, {1, -1}, {1, Edge.FAR}, {35, 701}};
        for (int[] one : wrong) {
            TownTable y = used();
            for (int i = 0; i < one[0]; i++) {
                y.feed(0x77616c6c, 0x20303b77, 0x616c6c20, 0x313b2020, BLANKS);
            }
            Edge.refused(one[1] + " of " + 20 * one[0], y, Edge.UNCOUNTED, t -> t.town(one[1]), Edge.IAE);
            Edge.yes("the image stays", y.restore());
        }
    }

    private static void fault() {
        Edge.of("Promise 4");
        Edge.says("The place of the latest town()'s FAULT;");
        TownTable x = new TownTable();
        Check.town(x, "  wall x;");
        Edge.is("the seventh byte", x.fault(), 7);
        Edge.is("still", x.fault(), 7);
        Check.town(x, "x");
        Edge.is("of the latest one, at 0", x.fault(), 0);
        Check.town(x, " ".repeat(696) + "wall");
        Edge.is("at the end of 700", x.fault(), 700);
        Edge.call("no text at all", () -> x.town(1), Edge.IAE);
        Edge.is("that is no text's fault", x.fault(), 700);
        x.hours(1);
        x.undo();
        Edge.is("acts leave it", x.fault(), 700);
        Edge.says("NONE without.");
        x.town(0);
        Edge.is("behind a text without", x.fault(), Edge.NONE);
        Edge.is("without a text", new TownTable().fault(), Edge.NONE);
    }

    private static void count() {
        Edge.of("Promise 5");
        TownTable x = Edge.town(Edge.TOWN);
        x.stop(2, 9);
        x.stop(0, 1);
        x.note(1, 2, 3);
        x.hours(2);
        x.brush(1);
        x.stop(1, 1);
        x.note(1, 2, 21);
        x.note(1, 2, -1);
        x.note(1, 2, 22);
        Check.town(x, "x");
        x.feed(0, 0, 0, 0, 0);
        Edge.says("0 FIGURES, 1 SEATS, 2 W, 3 H, 4 the HOUR, 5 LIGHT of it, 6 whether it is DULL (1), 7 PENCE, "
                + "8 how many WALLS, 9 PARTS, 10 SORE of all, 11 who is HELD (bits), 12 ACTS that are kept, 13 NOTED, "
                + "14 bytes of the tape, 15 to 17 STATUS 0 to 2.");
        int[] due = {3, 2, 4, 3, 2, 2, 1, 2, 1, 1, 3, 4, 3, 1, 20, 1, 2, 3};
        for (int what = 0; what < due.length; what++) {
            Edge.is("count(" + what + ")", x.count(what), due[what]);
        }
        TownTable most = Edge.town("table 6 6;" + "figure 35 0;".repeat(8) + "hurts 9;");
        for (int f = 0; f < 8; f++) {
            most.stop(f, 9);
        }
        Edge.is("all eight are held", most.count(11), 255);
        most.hours(9);
        Edge.is("sore of all", most.count(10), 8 * 81);
        Edge.is("none is held", most.count(11), 0);
        most.stop(6, 1);
        Edge.is("one, for one hour", most.count(11), 64);
        TownTable walls = Edge.town("table 2 2;");
        for (int c = 0; c < 4; c++) {
            walls.wall(c, true);
        }
        Edge.is("walls everywhere", walls.count(8), 4);
        Edge.is("no parts", walls.count(9), 0);
        Edge.says("NoSuchElementException: another what.");
        for (int what : new int[] {-1, 18, 19, Edge.LOW, Edge.FAR}) {
            Edge.refused("count(" + what + ")", Edge.town("figure 0 0;"), Edge.UNCOUNTED, t -> t.count(what), Edge.NSE);
        }
    }

    private static void figure() {
        Edge.of("Promise 6");
        Edge.says("Of a FIGURE: 0 the CELL, 1 how many STEPS its WAY has, 2 SORE, 3 for how many HOURS HELD, "
                + "4 the STEP that is next, 5 LEAD, 6 how many others are at its CELL.");
        TownTable x = Edge.town("table 3 3;figure 4 1 2 3;figure 1 0;figure 8 4 4 4 4 4 4 4 3;");
        x.stop(1, 4);
        Edge.figures(x, 4, 1, 0, 4);
        x.hours(1);
        Edge.figures(x, 0, 1, 1, 7);
        Edge.figures(x, 1, 3, 1, 8);
        Edge.figures(x, 2, 0, 1, 0);
        Edge.figures(x, 3, 0, 3, 0);
        Edge.figures(x, 4, 2, 0, 4);
        Edge.figures(x, 5, 0, 0, 0);
        Edge.figures(x, 6, 1, 1, 0);
        x.hours(6);
        Edge.figures(x, 4, 2, 0, 3);
        x.hours(1);
        Edge.figures(x, 4, 3, 0, 4);
        TownTable eight = Edge.town("figure 0 0;".repeat(8));
        Edge.is("seven others", eight.figure(7, 6), 7);
        Edge.is("nobody is sore", eight.figure(7, 2), 0);
        Edge.is("nobody is held", eight.figure(7, 3), 0);
        Edge.says("NoSuchElementException: no such FIGURE (as everywhere), what.");
        for (int f : new int[] {-1, 3, 8, Edge.LOW, Edge.FAR}) {
            Edge.refused("figure(" + f + ", 0)", Edge.town(Edge.TOWN), Edge.UNCOUNTED, t -> t.figure(f, 0), Edge.NSE);
            everywhere(f);
        }
        for (int what : new int[] {-1, 7, Edge.LOW, Edge.FAR}) {
            Edge.refused("figure(0, " + what + ")", Edge.town(Edge.TOWN), Edge.UNCOUNTED, t -> t.figure(0, what),
                    Edge.NSE);
        }
    }

    private static void everywhere(int f) {
        Edge.On[] calls = {t -> t.stop(f, 1), t -> t.lift(f, 1), t -> t.brush(f), t -> t.then(f, 0, 0),
            t -> t.comes(f, 0), t -> t.meet(f, 0), t -> t.meet(0, f), t -> t.meet(f, f), t -> t.spread(f, 0),
            t -> t.toStop(f, 0, 0), t -> t.seat(f), t -> t.note(f, 0, 0), t -> t.clouds(f, 0, 1, 0),
            t -> t.game(f, 0, 0), t -> t.game(0, f, 0), t -> t.game(f, f, 0), t -> t.together(f, 0, 1),
            t -> t.together(0, f, 1), t -> t.gone(f, 0)};
        TownTable nobody = Edge.town("");
        for (int i = 0; i < calls.length; i++) {
            Edge.On call = calls[i];
            Edge.refused("figure " + f + " in call " + i, Edge.town(Edge.TOWN), Edge.UNCOUNTED, call, Edge.NSE);
            Edge.call("nobody is there in call " + i, () -> call.of(nobody), Edge.NSE);
        }
    }

    private static void cell() {
        Edge.of("Promise 7");
        Edge.says("Of a CELL: 0 whether a WALL (1), 1 FIGURES at it (bits), 2 SEATS at it (bits), "
                + "3 SEEN FROM it (bits).");
        TownTable x = Edge.town("table 5 3;wall 7;figure 5 0;figure 9 0;figure 2 0;figure 12 0;figure 12 0;"
                + "seat 12;seat 0;seat 12;");
        int[][] due = {{7, 1, 0, 0, 31}, {12, 0, 24, 5, 24}, {0, 0, 0, 2, 5}, {2, 0, 4, 0, 4}, {6, 0, 0, 0, 1},
            {8, 0, 0, 0, 2}, {14, 0, 0, 0, 26}};
        for (int[] row : due) {
            for (int what = 0; what <= 3; what++) {
                Edge.is("cell(" + row[0] + ", " + what + ")", x.cell(row[0], what), row[1 + what]);
            }
        }
        TownTable eight = Edge.town("table 6 6;" + "figure 35 0;".repeat(8) + "seat 35;".repeat(8));
        for (int what = 1; what <= 3; what++) {
            Edge.is("all eight", eight.cell(35, what), 255);
        }
        Edge.says("NoSuchElementException: no such CELL (as everywhere), what.");
        for (int c : new int[] {-1, 12, 35, 64, Edge.LOW, Edge.FAR}) {
            Edge.refused("cell(" + c + ", 0)", Edge.town(Edge.TOWN), Edge.UNCOUNTED, t -> t.cell(c, 0), Edge.NSE);
            everywhereAt(c);
        }
        for (int what : new int[] {-1, 4, Edge.LOW, Edge.FAR}) {
            Edge.refused("cell(0, " + what + ")", Edge.town(Edge.TOWN), Edge.UNCOUNTED, t -> t.cell(0, what), Edge.NSE);
        }
    }

    private static void everywhereAt(int c) {
        Edge.On[] calls = {t -> t.lift(0, c), t -> t.wall(c, true) ? 1 : 0, t -> t.wall(c, false) ? 1 : 0,
            t -> t.comes(0, c), t -> t.way(c, 0, 0), t -> t.way(0, c, 0), t -> t.way(c, c, 1), t -> t.toStop(0, c, 0),
            t -> t.note(0, c, 0), t -> t.clouds(0, c, 1, 0), t -> t.quiet(c, 1)};
        for (int i = 0; i < calls.length; i++) {
            Edge.refused("cell " + c + " in call " + i, Edge.town(Edge.TOWN), Edge.UNCOUNTED, calls[i], Edge.NSE);
        }
    }
}

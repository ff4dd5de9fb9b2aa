/** The sentences of "==== 3." and of promises 14 to 24: who is where when, how far it is, whom to stop or seat. */
final class AskEdges {
    private static final String NOBODY = "";
    // One that goes to and fro between cells 0 and 1.
    private static final String FRO = "figure 0 2 4;";

    private AskEdges() { }

    static void run() {
        Edge.of("==== 3");
        whereWhen();
        whoMeets();
        waysAndSight();
        whomToStop();
        whomToThin();
        whoSitsWhere();
        then();
        comesAndMeet();
        crowdAndRound();
        spreadAndWay();
        toStopAndToThin();
        seatsAndSeat();
    }

    /** One at cell 0 that goes right in this hour alone. */
    private static String onlyIn(int hour) {
        return "figure 0 2;goes hour=" + hour + ";";
    }

    private static void whereWhen() {
        Edge.says("(If only HOURS go by, from now on:) THEN, behind so many HOURS (0 to 100): the CELL of a FIGURE, "
                + "how SORE it is, for how long it is HELD.");
        TownTable x = Edge.town(Edge.TOWN);
        x.hours(1);
        x.stop(0, 9);
        Edge.asks("now", x, t -> t.then(0, 0, 0), 1);
        Edge.is("sore now", x.then(0, 0, 1), 0);
        Edge.is("held now", x.then(0, 0, 2), 9);
        Edge.is("in the dull hour it goes off no table", x.then(0, 2, 0), 1);
        Edge.is("sore behind nine", x.then(0, 9, 1), 6);
        Edge.is("held behind eight", x.then(0, 8, 2), 1);
        Edge.is("held behind nine", x.then(0, 9, 2), 0);
        Edge.is("behind 100", Edge.town(onlyIn(99)).then(0, 100, 0), 1);
        Edge.is("not behind 99", Edge.town(onlyIn(99)).then(0, 99, 0), 0);
        Edge.is("not by the 101st hour", Edge.town(onlyIn(100)).then(0, 100, 0), 0);
        Edge.says("COMES: behind how many HOURS (0 to 100) it is at a CELL first; none.");
        Edge.asks("now", Edge.town(FRO), t -> t.comes(0, 0), 0);
        Edge.is("first", Edge.town(FRO).comes(0, 1), 1);
        Edge.is("behind 100", Edge.town(onlyIn(99)).comes(0, 1), 100);
        Edge.is("not behind 101", Edge.town(onlyIn(100)).comes(0, 1), Edge.NONE);
        Edge.is("never", Edge.town(FRO).comes(0, 2), Edge.NONE);
        Edge.is("a wall", Edge.town("wall 1;" + FRO).comes(0, 1), Edge.NONE);
        Edge.is("the last cell", Edge.town("table 6 6;figure 34 2;").comes(0, 35), 1);
    }

    private static void whoMeets() {
        Edge.says("MEET: behind how many HOURS (0 to 100) two are at one CELL first; none.");
        Edge.asks("now", Edge.town("figure 0 0;figure 0 2;"), t -> t.meet(0, 1), 0);
        Edge.is("behind 100", Edge.town("figure 1 0;" + onlyIn(99)).meet(0, 1), 100);
        Edge.is("not behind 101", Edge.town("figure 1 0;" + onlyIn(100)).meet(0, 1), Edge.NONE);
        Edge.is("past each other", Edge.town("figure 0 2;figure 1 4;").meet(0, 1), Edge.NONE);
        Edge.says("CROWD then: how many are where most are (0 without FIGURES); that CELL (of like ones the least); "
                + "none.");
        Edge.is("nobody", Edge.town(NOBODY).crowd(0, 0), 0);
        Edge.is("nowhere", Edge.town(NOBODY).crowd(0, 1), Edge.NONE);
        Edge.is("nobody behind 100", Edge.town(NOBODY).crowd(100, 0), 0);
        Edge.is("nowhere behind 100", Edge.town(NOBODY).crowd(100, 1), Edge.NONE);
        Edge.is("one", Edge.town("figure 9 0;figure 3 0;").crowd(0, 0), 1);
        Edge.is("at the first cell", Edge.town("figure 0 0;figure 3 0;").crowd(0, 1), 0);
        Edge.is("of like ones the least", Edge.town("figure 9 0;figure 3 0;").crowd(0, 1), 3);
        Edge.is("most, though not the least", Edge.town("figure 9 0;figure 3 0;figure 9 0;").crowd(0, 1), 9);
        Edge.is("of two and two the least", Edge.town("figure 9 0;figure 3 0;figure 9 0;figure 3 0;").crowd(0, 1), 3);
        Edge.is("all", Edge.town("table 6 6;" + "figure 35 0;".repeat(8)).crowd(100, 0), 8);
        Edge.is("at the last cell", Edge.town("table 6 6;" + "figure 35 0;".repeat(8)).crowd(100, 1), 35);
        Edge.is("behind 100", Edge.town("figure 1 0;" + onlyIn(99)).crowd(100, 0), 2);
        Edge.is("not behind 99", Edge.town("figure 1 0;" + onlyIn(99)).crowd(99, 0), 1);
        Edge.says("ROUND: behind how many HOURS (1 to 200) each is at its CELL of now again, all at once, first "
                + "(1 without FIGURES); none.");
        Edge.is("nobody", Edge.town(NOBODY).round(), 1);
        Edge.is("who stays", Edge.town("figure 0 0;").round(), 1);
        Edge.is("to and fro", Edge.town(FRO).round(), 2);
        Edge.is("all at once", Edge.town(FRO + "figure 5 2 0 4;").round(), 6);
        Edge.is("one never", Edge.town(FRO + "figure 5 2;").round(), Edge.NONE);
        Edge.is("behind 200", Edge.town("figure 1 4 2;goes hour=0 or hour=199;").round(), 200);
        Edge.is("not behind 201", Edge.town("figure 1 4 0 2;goes hour=0 or hour=200;").round(), Edge.NONE);
        TownTable late = Edge.town("figure 0 2 2 4 4;");
        late.hours(1);
        Edge.asks("its cell of now", late, TownTable::round, 2);
        Edge.says("SPREAD of one in so many HOURS (0 to 100): at how many CELLS it is now or behind one of these.");
        Edge.is("now alone", Edge.town(FRO).spread(0, 0), 1);
        Edge.is("two", Edge.town(FRO).spread(0, 1), 2);
        Edge.is("no more", Edge.town(FRO).spread(0, 100), 2);
        Edge.is("by the last hour", Edge.town(onlyIn(99)).spread(0, 100), 2);
        Edge.is("not ahead of it", Edge.town(onlyIn(99)).spread(0, 99), 1);
        Edge.is("cells on both sides of 32", Edge.town("table 6 6;figure 35 4 1;").spread(0, 100), 11);
    }

    private static void waysAndSight() {
        Edge.says("(Now:) one goes from CELL to CELL beside it (by x or by y) that is no WALL: HOW FAR: the fewest "
                + "STEPS from a CELL, a WALL or not, to another one (0 to itself; none to a WALL otherwise); none;");
        TownTable x = Edge.town("table 4 3;wall 5;wall 6;wall 11;");
        Edge.asks("to itself", x, t -> t.way(4, 4, 0), 0);
        Edge.is("a wall to itself", x.way(5, 5, 0), 0);
        Edge.is("to a wall", x.way(4, 5, 0), Edge.NONE);
        Edge.is("from wall to wall", x.way(5, 6, 0), Edge.NONE);
        Edge.is("from a wall", x.way(5, 4, 0), 1);
        Edge.is("from a wall not through one", x.way(5, 7, 0), 4);
        Edge.is("round", x.way(4, 7, 0), 5);
        Edge.is("not by corners", Edge.town("table 2 2;").way(0, 3, 0), 2);
        Edge.is("no row's end beside the next row", Edge.town("table 3 3;").way(2, 3, 0), 3);
        Edge.is("the farthest corners", Edge.town("table 6 6;").way(0, 35, 0), 10);
        TownTable snake = Edge.town("table 5 5;wall 5;wall 6;wall 7;wall 8;wall 16;wall 17;wall 18;wall 19;");
        Edge.is("the longest way", snake.way(0, 24, 0), 16);
        TownTable cut = Edge.town("table 3 3;wall 1;wall 3;wall 4;");
        Edge.is("cut off", cut.way(0, 8, 0), Edge.NONE);
        Edge.is("cut off backwards", cut.way(8, 0, 0), Edge.NONE);
        Edge.is("from a wall into the corner", cut.way(3, 0, 0), 1);
        cut.wall(4, false);
        Edge.is("of now: still cut off by two", cut.way(0, 8, 0), Edge.NONE);
        cut.wall(1, false);
        Edge.is("of now", cut.way(0, 8, 0), 4);
        Edge.says("the FIRST STEP of such a way (the CELL; of like ones the least); none.");
        Edge.is("of right and down the right one", Edge.town("table 3 3;").way(0, 8, 1), 1);
        Edge.is("of left and up the upper one", Edge.town("table 3 3;").way(8, 0, 1), 5);
        Edge.is("of left and down the left one", Edge.town("table 3 3;").way(5, 6, 1), 4);
        Edge.is("one alone", Edge.town("table 3 3;").way(3, 5, 1), 4);
        Edge.is("to itself", x.way(4, 4, 1), Edge.NONE);
        Edge.is("to a wall", x.way(4, 5, 1), Edge.NONE);
        Edge.is("a wall to itself", x.way(5, 5, 1), Edge.NONE);
        Edge.is("none", Edge.town("table 3 3;wall 1;wall 3;").way(0, 8, 1), Edge.NONE);
        Edge.is("from a wall, through none", x.way(5, 7, 1), 1);
        Edge.is("to the cell itself", x.way(0, 1, 1), 1);
        Edge.says("PARTS: how many there are of CELLS, no WALLS, that hang together.");
        Edge.is("one", Edge.town("table 2 2;").count(9), 1);
        Edge.is("none", Edge.town("table 2 2;wall 0;wall 1;wall 2;wall 3;").count(9), 0);
        Edge.is("corners", Edge.town("table 3 3;wall 1;wall 3;wall 5;wall 7;").count(9), 5);
        Edge.is("a row's end", Edge.town("table 3 3;wall 1;wall 4;wall 5;wall 6;wall 7;").count(9), 3);
        Edge.is("as many as can be", Edge.town("table 6 6;wall 1;wall 3;wall 5;wall 6;wall 8;wall 10;wall 13;wall 15;"
                + "wall 17;wall 18;wall 20;wall 22;wall 25;wall 27;wall 29;wall 30;wall 32;wall 34;").count(9), 18);
        Edge.says("SEEN FROM a CELL, a WALL or not: FIGURES in its row or column with no WALL between, at it, too "
                + "(bits).");
        TownTable seen = Edge.town("table 6 6;wall 14;figure 12 0;figure 17 0;figure 2 0;figure 32 0;figure 0 0;"
                + "figure 17 0;");
        Edge.is("from the wall", seen.cell(14, 3), 47);
        Edge.is("up to the wall", seen.cell(13, 3), 1);
        Edge.is("behind it", seen.cell(15, 3), 34);
        Edge.is("at it, too", seen.cell(17, 3), 34);
        Edge.is("above it", seen.cell(8, 3), 4);
        Edge.is("below it", seen.cell(20, 3), 8);
        Edge.is("a figure hides none", seen.cell(6, 3), 17);
        Edge.is("none", seen.cell(28, 3), 0);
        Edge.is("not round a row's end", Edge.town("table 3 3;figure 2 0;").cell(3, 3), 0);
    }

    private static void whomToStop() {
        Edge.says("TO STOP: for how many HOURS (0 to 9; 0: no more) a FIGURE must be HELD from now on");
        TownTable line = Edge.town("table 6 2;figure 0 2;");
        for (int held = 0; held <= 5; held++) {
            Edge.is("five hours, to " + (5 - held), line.toStop(0, 5 - held, 5), held);
        }
        Edge.is("nine", line.toStop(0, 0, 9), 9);
        Edge.is("ten can't be", line.toStop(0, 0, 10), Edge.NONE);
        Edge.says("(in place of what is left, DULL or not now; HOURS that are DULL count as ever), "
                + "so that it is at a CELL behind so many HOURS (0 to 100): the least; none.");
        line.stop(0, 5);
        Edge.asks("no more", line, t -> t.toStop(0, 3, 3), 0);
        Edge.is("for one in place of five", line.toStop(0, 2, 3), 1);
        TownTable dull = Edge.town("figure 0 2;light 0 9;");
        Edge.is("dull now, held in the second hour", dull.toStop(0, 1, 2), 2);
        Edge.is("in a dull hour it goes", dull.toStop(0, 0, 1), Edge.NONE);
        Edge.is("the least of all", Edge.town("figure 0 0;").toStop(0, 0, 100), 0);
        Edge.is("now", Edge.town(FRO).toStop(0, 0, 0), 0);
        Edge.is("not now", Edge.town(FRO).toStop(0, 1, 0), Edge.NONE);
        Edge.is("behind 100", Edge.town(onlyIn(99)).toStop(0, 1, 100), 0);
        Edge.is("not behind 99", Edge.town(onlyIn(99)).toStop(0, 1, 99), Edge.NONE);
        TownTable sore = Edge.town("figure 0 2;hurts 5;");
        Edge.is("who becomes too sore stays for good", sore.toStop(0, 0, 100), 2);
    }

    private static void whomToThin() {
        Edge.says("TO THIN for so many HOURS (0 to 60): the fewest FIGURES that must be taken off, so that no two of "
                + "the others are at one CELL now, or behind any of these:");
        Edge.is("nobody", Edge.town(NOBODY).toThin(60), 0);
        Edge.is("one alone", Edge.town("figure 0 0;").toThin(60), 0);
        Edge.is("now", Edge.town("figure 0 2;figure 0 0;").toThin(0), 1);
        Edge.is("now, though parted later", Edge.town("figure 0 2;figure 0 0;").toThin(60), 1);
        Edge.is("behind 60", Edge.town("figure 1 0;" + onlyIn(59)).toThin(60), 1);
        Edge.is("not behind 59", Edge.town("figure 1 0;" + onlyIn(59)).toThin(59), 0);
        Edge.is("not by the 61st hour", Edge.town("figure 1 0;" + onlyIn(60)).toThin(60), 0);
        Edge.asks("the one whom all meet", Edge.town("table 6 2;figure 1 0;figure 2 0;figure 0 2;"),
                t -> t.toThin(2), 4);
        Edge.is("all but one of eight", Edge.town("figure 0 0;".repeat(8)).toThin(0), 127);
        TownTable again = Edge.town("figure 0 2;figure 1 0;");
        Edge.is("in one hour", again.toThin(1), 1);
        Edge.is("asked again for none", again.toThin(0), 0);
        Edge.says("of as few the least as bits (where others are is as if none were taken off).");
        Edge.is("of two the first", Edge.town("figure 5 0;figure 0 0;figure 0 0;").toThin(0), 2);
        Edge.is("of each couple the first",
                Edge.town("figure 0 0;figure 1 0;figure 0 0;figure 1 0;").toThin(0), 3);
        Edge.is("by the rule it stays with one that is taken off",
                Edge.town("figure 0 2;figure 1 0;figure 2 0;goes with<1;").toThin(60), 1);
    }

    /** How many sit, how far all go, and who has which seat. */
    private static void seating(String text, int many, int far, int... row) {
        TownTable x = Edge.town(text);
        Edge.is("how many by " + text, x.seats(0), many);
        Edge.is("how far by " + text, x.seats(1), far);
        for (int f = 0; f < row.length; f++) {
            Edge.is("seat of " + f + " by " + text, x.seat(f), row[f]);
        }
        Edge.is("as many, asked again by " + text, x.seats(0), many);
        Edge.is("as far, asked again by " + text, x.seats(1), far);
    }

    private static void whoSitsWhere() {
        Edge.says("TO SEATS: FIGURES go each to a SEAT to which there is a way, no two to one, as many as can,");
        seating(NOBODY, 0, 0);
        seating("seat 0;", 0, 0);
        seating("figure 0 0;", 0, 0, Edge.NONE);
        seating("figure 0 0;seat 0;", 1, 0, 0);
        seating("table 3 3;wall 1;wall 3;wall 4;figure 0 0;seat 8;", 0, 0, Edge.NONE);
        seating("figure 0 0;figure 0 0;seat 0;", 1, 0, 0, Edge.NONE);
        seating("figure 0 0;seat 0;seat 0;", 1, 0, 0);
        seating("table 6 2;figure 1 0;figure 4 0;seat 1;seat 0;", 2, 4, 0, 1);
        seating("figure 0 0;".repeat(8) + "seat 1;".repeat(8), 8, 8, 0, 1, 2, 3, 4, 5, 6, 7);
        seating("table 6 6;" + "figure 0 0;".repeat(8) + "seat 35;".repeat(8), 8, 80, 0, 1, 2, 3, 4, 5, 6, 7);
        Edge.says("and of these ways that by which it is least FAR, all together: how many; how far;");
        seating("table 6 2;figure 1 0;figure 0 0;seat 0;seat 5;", 2, 4, 1, 0);
        seating("table 6 2;figure 5 0;figure 0 0;seat 0;seat 5;", 2, 0, 1, 0);
        seating("table 6 2;figure 0 0;figure 1 0;seat 2;", 1, 1, Edge.NONE, 0);
        seating("table 6 2;figure 0 0;seat 5;seat 4;seat 1;seat 2;", 1, 1, 2);
        Edge.says("which SEAT one has: of like ones the first row (by FIGURES: which; none behind all).");
        seating("table 6 2;figure 0 0;figure 0 0;seat 1;seat 1;", 2, 2, 0, 1);
        seating("table 6 2;figure 0 0;figure 0 0;seat 1;", 1, 1, 0, Edge.NONE);
        seating("table 6 2;figure 0 0;figure 1 0;seat 2;seat 3;", 2, 4, 0, 1);
        seating("table 6 2;figure 1 0;figure 3 0;figure 5 0;seat 2;seat 4;", 2, 2, 0, 1, Edge.NONE);
        seating("table 6 2;figure 1 0;seat 2;seat 0;", 1, 1, 0);
        seating("table 6 2;figure 0 0;figure 5 0;figure 2 0;seat 0;seat 2;", 2, 0, 0, Edge.NONE, 1);
        seating("table 6 2;figure 0 0;figure 1 0;seat 1;", 1, 0, Edge.NONE, 0);
    }

    private static void then() {
        Edge.of("Promise 14");
        Edge.says("THEN: the CELL (what 0), SORE (1), HELD (2).");
        TownTable x = Edge.town("figure 0 2;figure 9 4;");
        x.stop(0, 3);
        int[][] due = {{0, 0, 3}, {0, 1, 2}, {0, 2, 1}, {0, 3, 0}, {1, 3, 0}};
        for (int hours = 0; hours < due.length; hours++) {
            for (int what = 0; what <= 2; what++) {
                Edge.is("then(0, " + hours + ", " + what + ")", x.then(0, hours, what), due[hours][what]);
            }
        }
        Edge.says("NoSuchElementException: also another what.");
        for (int what : new int[] {-1, 3, Edge.LOW, Edge.FAR}) {
            Edge.throwsBoth(what + " for what", t -> t.then(0, 0, what), Edge.NSE);
            Edge.call("ahead of wrong hours", () -> x.then(0, 101, what), Edge.NSE);
        }
        Edge.call("no such figure ahead of wrong hours", () -> x.then(2, 101, 0), Edge.NSE);
        Edge.says("IllegalArgumentException (behind that): not 0 to 100.");
        for (int hours : Edge.outside(0, 100)) {
            Edge.throwsBoth(hours + " hours", t -> t.then(0, hours, 0), Edge.IAE);
        }
    }

    private static void comesAndMeet() {
        Edge.of("Promise 15");
        Edge.says("COMES; NONE: none.");
        TownTable x = Edge.town(Edge.TOWN);
        Edge.is("now", x.comes(2, 8), 0);
        Edge.is("behind six", x.comes(0, 11), 6);
        Edge.asks("none", x, t -> t.comes(2, 9), Edge.NONE);
        Edge.of("Promise 16");
        Edge.says("MEET; NONE: none, both are one.");
        TownTable y = Edge.town("figure 0 2;figure 4 4;figure 15 0;figure 15 0;");
        Edge.is("midway", y.meet(0, 1), 2);
        Edge.is("the other way round", y.meet(1, 0), 2);
        Edge.asks("none", y, t -> t.meet(0, 2), Edge.NONE);
        for (int f = 0; f < 4; f++) {
            Edge.is("both are " + f, y.meet(f, f), Edge.NONE);
        }
    }

    private static void crowdAndRound() {
        Edge.of("Promise 17");
        Edge.says("CROWD: how many (what 0), the CELL (1; NONE).");
        TownTable x = Edge.town("figure 0 2;figure 4 4;figure 7 0;figure 7 0;figure 7 0;");
        Edge.is("how many", x.crowd(0, 0), 3);
        Edge.asks("where", x, t -> t.crowd(100, 1), 7);
        Edge.is("nowhere", Edge.town(NOBODY).crowd(5, 1), Edge.NONE);
        Edge.says("NoSuchElementException: another what.");
        for (int what : new int[] {-1, 2, Edge.LOW, Edge.FAR}) {
            Edge.throwsBoth(what + " for what", t -> t.crowd(0, what), Edge.NSE);
            Edge.call("ahead of wrong hours", () -> x.crowd(101, what), Edge.NSE);
        }
        Edge.says("IllegalArgumentException (behind that): not 0 to 100.");
        for (int hours : Edge.outside(0, 100)) {
            Edge.throwsBoth(hours + " hours", t -> t.crowd(hours, 0), Edge.IAE);
            Edge.call("for the cell, too", () -> x.crowd(hours, 1), Edge.IAE);
        }
        Edge.of("Promise 18");
        Edge.says("ROUND; NONE: none.");
        Edge.is("two", Edge.town(FRO).round(), 2);
        Edge.asks("none", Edge.town("figure 0 2;"), TownTable::round, Edge.NONE);
        Edge.is("in a new object", new TownTable().round(), 1);
    }

    private static void spreadAndWay() {
        Edge.of("Promise 19");
        Edge.says("SPREAD.");
        TownTable x = Edge.town(Edge.TOWN);
        Edge.asks("now", x, t -> t.spread(0, 0), 1);
        Edge.is("behind 100", x.spread(1, 100), 4);
        Edge.says("IllegalArgumentException (behind NoSuchElementException): not 0 to 100.");
        for (int hours : Edge.outside(0, 100)) {
            Edge.throwsBoth(hours + " hours", t -> t.spread(0, hours), Edge.IAE);
            Edge.call("no such figure ahead", () -> x.spread(3, hours), Edge.NSE);
        }
        Edge.of("Promise 20");
        Edge.says("HOW FAR (what 0), the FIRST STEP (1; NONE also to itself); NONE: none.");
        Edge.asks("how far", x, t -> t.way(0, 11, 0), 5);
        Edge.is("the first step", x.way(0, 11, 1), 1);
        Edge.is("to itself", x.way(0, 0, 0), 0);
        Edge.is("no first step to itself", x.way(0, 0, 1), Edge.NONE);
        Edge.is("none", x.way(0, 5, 0), Edge.NONE);
        Edge.is("no first step", x.way(0, 5, 1), Edge.NONE);
        Edge.says("NoSuchElementException: also another what.");
        for (int what : new int[] {-1, 2, Edge.LOW, Edge.FAR}) {
            Edge.throwsBoth(what + " for what", t -> t.way(0, 1, what), Edge.NSE);
            Edge.throwsBoth(what + " for what, to itself", t -> t.way(0, 0, what), Edge.NSE);
        }
    }

    private static void toStopAndToThin() {
        Edge.of("Promise 21");
        Edge.says("TO STOP; NONE: none.");
        TownTable x = Edge.town(Edge.TOWN);
        Edge.is("not at all", x.toStop(0, 6, 3), 0);
        Edge.is("two", x.toStop(0, 4, 3), 2);
        Edge.asks("none", x, t -> t.toStop(0, 2, 3), Edge.NONE);
        Edge.says("IllegalArgumentException (behind NoSuchElementException): not 0 to 100.");
        for (int hours : Edge.outside(0, 100)) {
            Edge.throwsBoth(hours + " hours", t -> t.toStop(0, 0, hours), Edge.IAE);
            Edge.call("no such figure ahead", () -> x.toStop(3, 0, hours), Edge.NSE);
            Edge.call("no such cell ahead", () -> x.toStop(0, 12, hours), Edge.NSE);
        }
        Edge.of("Promise 22");
        Edge.says("TO THIN, as bits.");
        Edge.is("the third", Edge.town("figure 0 0;figure 1 0;figure 5 0;figure 5 0;").toThin(0), 4);
        Edge.asks("none", x, t -> t.toThin(60), 0);
        Edge.says("IllegalArgumentException: not 0 to 60.");
        for (int hours : Edge.outside(0, 60)) {
            Edge.throwsBoth(hours + " hours", t -> t.toThin(hours), Edge.IAE);
            Edge.call("nobody is there", () -> new TownTable().toThin(hours), Edge.IAE);
        }
    }

    private static void seatsAndSeat() {
        Edge.of("Promise 23");
        Edge.says("TO SEATS: how many (what 0), how far (1).");
        TownTable x = Edge.town(Edge.TOWN);
        Edge.is("how many", x.seats(0), 2);
        Edge.asks("how far", x, t -> t.seats(1), 4);
        Edge.is("none", Edge.town(NOBODY).seats(0), 0);
        Edge.is("not far", Edge.town(NOBODY).seats(1), 0);
        Edge.says("NoSuchElementException: another what.");
        for (int what : new int[] {-1, 2, Edge.LOW, Edge.FAR}) {
            Edge.throwsBoth(what + " for what", t -> t.seats(what), Edge.NSE);
        }
        Edge.of("Promise 24");
        Edge.says("TO SEATS: which one has; NONE: none.");
        Edge.is("the first", x.seat(0), 0);
        Edge.is("the second", x.seat(1), 1);
        Edge.is("none", x.seat(2), Edge.NONE);
        Edge.is("none without seats", Edge.town("figure 0 0;").seat(0), Edge.NONE);
        x.hours(1);
        Edge.is("by the cells of now: none", x.seat(0), Edge.NONE);
        Edge.is("where it is", x.seat(1), 0);
        Edge.is("three steps away", x.seat(2), 1);
    }
}

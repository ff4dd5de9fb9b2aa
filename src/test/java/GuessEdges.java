/** The sentences of "==== 4." and of promises 25 to 31: what is noted, guesses, clouds, a game, years by a seed. */
final class GuessEdges {
    private GuessEdges() { }

    static void run() {
        Edge.of("==== 4");
        noted();
        clouds();
        game();
        years();
        yearsAtTheEdges();
        status();
        noteAndForget();
        aheadAndLook();
        cloudsAndGame();
        yearsRefused();
    }

    private static void noted() {
        Edge.says("NOTED (at most 8): that a FIGURE was at a CELL behind so many HOURS (0 to 20).");
        TownTable x = Edge.town("figure 0 2;goes hour=19;");
        for (int i = 1; i <= 8; i++) {
            Edge.is("note " + i, x.note(0, 0, i - 1), i);
        }
        Edge.is("a ninth", x.note(0, 0, 0), Edge.NONE);
        Edge.is("all eight are so", x.ahead(2), 1);
        x.forget();
        Edge.is("behind 20", x.note(0, 1, 20), 1);
        Edge.is("so", x.ahead(2), 1);
        x.note(0, 0, 19);
        Edge.is("so behind 19, too", x.ahead(2), 1);
        TownTable twenty = Edge.town("figure 0 2 0;goes hour=19;");
        twenty.note(0, 1, 20);
        Edge.is("not so behind 20", twenty.ahead(2), 0);
        Edge.is("but by one ahead", twenty.ahead(0), 1);
        x.note(0, 1, 0);
        Edge.is("not so now", x.ahead(2), 0);
        Edge.is("behind 21", x.note(0, 1, 21), Edge.NONE);
        Edge.is("behind -1", x.note(0, 1, -1), Edge.NONE);
        TownTable last = Edge.town("figure 0 2;");
        for (int i = 0; i < 7; i++) {
            last.note(0, 0, 0);
        }
        Edge.is("seven are so", last.ahead(2), 1);
        last.note(0, 0, 1);
        Edge.is("the eighth counts", last.ahead(2), 0);
        Edge.says("AHEAD: FIGURES and LEADS (0 to 7, below how many STEPS its WAY has, another one than it has) by one "
                + "of which now all NOTED would be so: how many; the first (10 by the FIGURE, and LEAD);");
        Edge.is("nobody", new TownTable().ahead(0), 0);
        Edge.is("no first", new TownTable().ahead(1), Edge.NONE);
        Edge.is("one step has no other lead", Edge.town("figure 0 2;").ahead(0), 0);
        Edge.is("two have one", Edge.town("figure 0 2 4;").ahead(0), 1);
        Edge.is("eight have seven", Edge.town("figure 0 1 1 1 1 1 1 1 2;").ahead(0), 7);
        Edge.is("eight of eight", Edge.town("figure 0 1 1 1 1 1 1 1 2;".repeat(8)).ahead(0), 56);
        TownTable seven = Edge.town("figure 9 0;figure 0 1 1 1 1 1 1 1 2;");
        seven.note(1, 1, 1);
        Edge.is("seven ahead alone", seven.ahead(0), 1);
        Edge.is("figure 1, lead 7", seven.ahead(1), 17);
        seven.note(1, 0, 1);
        Edge.is("not both", seven.ahead(0), 0);
        Edge.is("none", seven.ahead(1), Edge.NONE);
        TownTable now = Edge.town("figure 0 2 0 0;");
        now.note(0, 1, 1);
        Edge.is("lead 0 is the one that it has", now.ahead(0), 0);
        now.hours(1);
        Edge.is("from now, one of two stays where it is", now.ahead(0), 1);
        Edge.is("that by 1", now.ahead(1), 1);
        TownTable step = Edge.town("figure 0 0 2 4;goes step=2;");
        step.note(0, 1, 1);
        Edge.is("rules are told the step by the lead", step.ahead(0), 1);
        Edge.is("that by 1", step.ahead(1), 1);
        Edge.says("whether it is so without (1).");
        Edge.is("nothing noted", new TownTable().ahead(2), 1);
        TownTable without = Edge.town("figure 0 2;");
        without.note(0, 1, 1);
        Edge.is("so", without.ahead(2), 1);
        without.note(0, 1, 2);
        Edge.is("not so", without.ahead(2), 0);
        Edge.says("LOOK NEXT: the FIGURE (of like ones the least) that behind 5 HOURS by these would be at most unlike "
                + "CELLS: how many; none without any.");
        Edge.is("nobody", new TownTable().look(0), Edge.NONE);
        Edge.is("none", new TownTable().look(1), 0);
        Edge.is("no guess", Edge.town("figure 0 2;").look(0), Edge.NONE);
        Edge.is("at none", Edge.town("figure 0 2;").look(1), 0);
        Edge.is("of like ones the least", Edge.town("figure 0 0;figure 5 0 0;").look(0), 0);
        Edge.is("one", Edge.town("figure 0 0;figure 5 0 0;").look(1), 1);
        // One step in six hours: behind five it has been made by all leads but the one whose step comes sixth.
        TownTable six = Edge.town("figure 9 0;figure 0 2 0 0 0 0 0;");
        Edge.is("the second", six.look(0), 1);
        Edge.is("two", six.look(1), 2);
        TownTable five = Edge.town("figure 9 0;figure 0 2 0 0 0 0;");
        Edge.is("by five hours all leads have made it", five.look(0), 0);
        Edge.is("one each", five.look(1), 1);
        TownTable eighth = Edge.town("figure 0 0;".repeat(7) + "figure 0 2 0 0 0 0 0;");
        Edge.is("the eighth", eighth.look(0), 7);
        Edge.is("two", eighth.look(1), 2);
        TownTable gone = Edge.town("figure 0 2 4;");
        gone.note(0, 9, 0);
        Edge.is("none by notes that can't be", gone.look(0), Edge.NONE);
        Edge.is("at none", gone.look(1), 0);
    }

    private static void clouds() {
        Edge.says("CLOUDS: each of so many HOURS (1 to 5) is DULL with so many tenths (0 to 10), else it isn't, "
                + "whatever LIGHT is (which rules are told as ever):");
        TownTable dark = Edge.town("figure 0 2;light 9;");
        dark.stop(0, 9);
        Edge.is("one hour", dark.clouds(0, 1, 1, 3), 3);
        Edge.is("five hours, no tenths", dark.clouds(0, 0, 5, 0), 100000);
        Edge.is("five hours, all tenths", dark.clouds(0, 4, 5, 10), 100000);
        Edge.is("no such luck", dark.clouds(0, 1, 5, 0), 0);
        TownTable lit = Edge.town("figure 0 2;light 9 0;goes light<5;");
        Edge.is("rules are told light", lit.clouds(0, 0, 1, 10), 10);
        Edge.is("rules are told light", lit.clouds(0, 1, 2, 10), 100);
        TownTable bright = Edge.town("figure 0 2;light 9 0;");
        bright.stop(0, 2);
        Edge.is("not dull in the second hour, though it will be", bright.clouds(0, 0, 2, 0), 100);
        Edge.says("how likely a FIGURE is at a CELL behind them: as so many of 10 to the power of these HOURS.");
        Edge.is("two of two", dark.clouds(0, 2, 2, 3), 9);
        Edge.is("one of two", dark.clouds(0, 1, 2, 3), 42);
        Edge.is("none of two", dark.clouds(0, 0, 2, 3), 49);
        int all = 0;
        for (int cell = 0; cell < 20; cell++) {
            all += dark.clouds(0, cell, 5, 7);
        }
        Edge.is("all cells together", all, 100000);
        Edge.is("the most", dark.clouds(0, 4, 5, 10), 100000);
        Edge.is("four or five of five go to the row's end", dark.clouds(0, 4, 5, 7), 5 * 2401 * 3 + 16807);
    }

    private static void couples(String text, int many, int first) {
        TownTable x = Edge.town(text);
        Edge.is("couples by " + text, x.game(0, 1, 0), many);
        Edge.is("the first by " + text, x.game(0, 1, 1), first);
    }

    private static void game() {
        Edge.says("A GAME of two FIGURES: each is STOPPED for 3 HOURS now, DULL or not, or not (1, 0):");
        // Stopped for three hours, it is sore by three; half of that, cut down, is one less.
        couples("figure 0 0;figure 9 0;", 1, 0);
        couples("figure 0 0;figure 9 0;light 0;", 4, 0);
        couples("figure 0 0;figure 9 0;light 0 0 9;hurts 2;", 1, 0);
        TownTable held = Edge.town("figure 0 0;figure 9 0;hurts 2;");
        held.stop(0, 9);
        Edge.is("not stopped: held by what is left, for longer", held.game(0, 1, 1), 10);
        Edge.is("its pence stay", held.count(7), 1);
        couples("figure 0 0 0 2 0 0 0 0 0;figure 9 0;figure 0 0;hurts 0;", 2, 10);
        couples("figure 0 0 0 0 2 0 0 0 0;figure 9 0;figure 0 0;hurts 0;", 4, 0);
        Edge.says("each gains 2 for each HOUR of 8 from now at whose end others are at its CELL, less half of SORE "
                + "behind these (cut down).");
        couples("figure 0 0;figure 9 0;hurts hour=0;", 4, 0);
        couples("figure 0 0;figure 9 0;hurts (hour=0)*2;", 1, 0);
        couples("figure 0 2;figure 0 2;hurts 0;", 2, 0);
        // Stopped, figure 0 stays where figure 2 comes in the eighth hour, or goes to where it comes in the ninth.
        couples("figure 1 2 0 0 0 0 0 0 0;figure 9 0;figure 0 0 0 0 0 0 0 0 2;hurts 0;", 2, 10);
        couples("figure 1 2 0 0 0 0 0 0 0;figure 9 0;figure 4 0 0 0 4 0;hurts 0;", 4, 0);
        // One hour in company gains 2: it is worth to be sore by 3, as good as to be sore by 4, and not worth 6.
        couples("figure 1 2 0 0 0 0 0 0 0;figure 9 0;figure 0 0 0 0 0 0 0 0 2;hurts (hour=0)*3;", 1, 10);
        couples("figure 1 2 0 0 0 0 0 0 0;figure 9 0;figure 0 0 0 0 0 0 0 0 2;hurts (hour=0)*4;", 2, 0);
        couples("figure 1 2 0 0 0 0 0 0 0;figure 9 0;figure 0 0 0 0 0 0 0 0 2;hurts (hour=0)*6;", 1, 0);
        Edge.says("A couple RESTS, if neither gains more by the other choice: how many; the first (10 by the first "
                + "one's and the other one's).");
        couples("table 3 2;figure 3 1;figure 0 2;", 1, 1);
        couples("table 4 2;figure 3 4;figure 2 2;hurts 2;", 1, 10);
        couples("table 4 2;figure 2 2;figure 3 4;hurts 2;", 1, 1);
        couples("table 3 2;figure 1 3;figure 1 0 2;", 1, 11);
        couples("table 4 2;figure 3 4;figure 2 4;figure 2 2 1;goes with;", 0, Edge.NONE);
    }

    /** The draws of a seed before MOD, told in longs so that nothing wraps but what is cut off. */
    private static int[] drawsOf(int seed, int many) {
        int[] draws = new int[many];
        long next = seed & 0xffffffffL;
        for (int i = 0; i < many; i++) {
            next = (next * 1103515245L + 12345L) % 4294967296L;
            draws[i] = (int) (next / 65536L % 32768L);
        }
        return draws;
    }

    /** A seed by whose draws, each MOD the first of a pair, there comes the second of it. */
    private static int seedOf(int... pairs) {
        for (int seed = 0; seed < 20_000_000; seed++) {
            int[] draws = drawsOf(seed, pairs.length / 2);
            boolean all = true;
            for (int i = 0; i < draws.length && all; i++) {
                all = draws[i] % pairs[2 * i] == pairs[2 * i + 1];
            }
            if (all) {
                return seed;
            }
        }
        throw new IllegalStateException("no such seed");
    }

    private static void years() {
        // Two who stay, at 0 and 3 of four cells; a third hour of three is dull.
        String two = "table 2 2;figure 0 0;figure 3 0;light 9 9 0;";
        Edge.says("YEARS by a seed: n HOURS (0 to 100) from now on:");
        TownTable x = Edge.town("table 2 2;figure 0 0;figure 0 0;hurts 2;");
        x.stop(0, 9);
        x.hours(4);
        int[] none = {0, 8, 1};
        for (int what = 0; what <= 2; what++) {
            Edge.is("no hours, what " + what, x.years(1, 0, what), none[what]);
        }
        Edge.is("one hour, nothing befalls", x.years(seedOf(6, 3), 1, 1), 10);
        Edge.says("ahead of each a DRAW of 6:");
        for (int fate = 3; fate <= 5; fate++) {
            TownTable y = Edge.town(two);
            Edge.is(fate + " does nothing", y.years(seedOf(6, fate, 6, fate), 2, 1), 0);
            Edge.is(fate + " moves nobody", y.years(seedOf(6, fate, 6, fate), 2, 2), 2);
        }
        Edge.is("ahead of the hour: sore by it", Edge.town(two).years(seedOf(6, 0, 2, 1, 4, 1), 1, 1), 1);
        Edge.says("0 a DRAW of FIGURES is HELD for a DRAW of 4 HOURS (in place of what is left, DULL or not);");
        for (int hours = 0; hours <= 3; hours++) {
            int seed = seedOf(6, 0, 2, 1, 4, hours, 6, 3, 6, 4, 6, 5);
            TownTable lit = Edge.town("table 2 2;figure 0 0;figure 3 0;");
            Edge.is("held for " + hours, lit.years(seed, 4, 1), hours);
            lit.stop(1, 9);
            Edge.is("in place of nine", lit.years(seed, 4, 1), hours);
            lit.stop(0, 9);
            Edge.is("the other one is held on", lit.years(seed, 4, 1), 4 + hours);
            TownTable dull = Edge.town("table 2 2;figure 0 0;figure 3 0;light 0 9;");
            Edge.is("though dull now", dull.years(seed, 4, 1), hours / 2);
        }
        Edge.says("1 a DRAW of FIGURES is LIFTED to a DRAW of all CELLS (not, if that is a WALL; DULL or not; "
                + "HELD no more);");
        String walled = "table 2 2;figure 0 0;figure 3 0;wall 1;light 9;dull 0;";
        for (String town : new String[] {walled, walled.replace("light 9;dull 0", "light 0;dull 9")}) {
            Edge.is("to the other one", Edge.town(town).years(seedOf(6, 1, 2, 1, 4, 0), 1, 2), 1);
            Edge.is("to a free one", Edge.town(town).years(seedOf(6, 1, 2, 1, 4, 2), 1, 2), 2);
            Edge.is("not to a wall", Edge.town(town).years(seedOf(6, 1, 2, 1, 4, 1), 1, 2), 2);
        }
        TownTable held = Edge.town(walled);
        held.stop(1, 5);
        Edge.is("a wall: held still", held.years(seedOf(6, 1, 2, 1, 4, 1), 1, 1), 1);
        Edge.is("held no more", held.years(seedOf(6, 1, 2, 1, 4, 2), 1, 1), 0);
        Edge.is("nor where it is already", held.years(seedOf(6, 1, 2, 1, 4, 3), 1, 1), 0);
        Edge.says("2 a DRAW of FIGURES is BRUSHED:");
        TownTable sore = Edge.town("table 2 2;figure 0 0;figure 3 0;hurts 9;");
        sore.stop(0, 1);
        sore.hours(1);
        sore.stop(1, 2);
        sore.hours(2);
        Edge.is("9 and 18", sore.count(10), 27);
        Edge.is("the first", sore.years(seedOf(6, 2, 2, 0), 1, 1), 18);
        Edge.is("the second", sore.years(seedOf(6, 2, 2, 1), 1, 1), 9);
        Edge.is("both", sore.years(seedOf(6, 2, 2, 1, 6, 2, 2, 0), 2, 1), 0);
        Edge.is("one that isn't sore", Edge.town(two).years(seedOf(6, 2, 2, 1), 1, 1), 0);
    }

    private static void yearsAtTheEdges() {
        Edge.says("how many HOURS end with two or more at one CELL; SORE of all at the end; how many CELLS have a "
                + "FIGURE then.");
        TownTable pair = Edge.town("figure 0 0;figure 0 0;goes 0;");
        Edge.is("all of three", pair.years(seedOf(6, 3, 6, 3, 6, 3), 3, 0), 3);
        Edge.is("one cell", pair.years(seedOf(6, 3, 6, 3, 6, 3), 3, 2), 1);
        TownTable parts = Edge.town("figure 0 2;figure 0 0;");
        Edge.is("ends alone: not the beginning", parts.years(seedOf(6, 3), 1, 0), 0);
        Edge.is("an hour counts once for two couples",
                Edge.town("figure 0 0;figure 0 0;figure 1 0;figure 1 0;").years(seedOf(6, 3), 1, 0), 1);
        Edge.is("one alone", Edge.town("figure 0 0;").years(seedOf(6, 3), 1, 0), 0);
        Edge.is("eight cells", Edge.town("figure 0 0;figure 1 0;figure 2 0;figure 3 0;figure 4 0;figure 5 0;figure 6 0;"
                + "figure 19 0;").years(seedOf(6, 3), 1, 2), 8);
        Edge.says("A seed becomes itself times 1103515245 and 12345 (an int that wraps); a DRAW of n is its bits 16 "
                + "to 30 MOD n then");
        for (int seed : new int[] {0, 1, -1, 65536, -12345, 987654321, Edge.LOW, Edge.FAR}) {
            byDraws(seed);
        }
        Edge.says("(both are drawn in each case, PENCE stay).");
        // Behind a lift to a wall the next fate is the fourth draw, as behind any other lift.
        String walled = "table 2 2;figure 0 0;figure 3 0;wall 1;";
        Edge.is("behind a wall", Edge.town(walled).years(seedOf(6, 1, 2, 1, 4, 1, 6, 0, 2, 0, 4, 2), 2, 1), 1);
        Edge.is("behind a lift", Edge.town(walled).years(seedOf(6, 1, 2, 1, 4, 2, 6, 0, 2, 0, 4, 2), 2, 1), 1);
        Edge.is("behind no hours", Edge.town(walled).years(seedOf(6, 0, 2, 1, 4, 0, 6, 0, 2, 0, 4, 2), 2, 1), 1);
        Edge.is("one that can't be drawn otherwise is drawn",
                Edge.town("table 2 2;figure 0 0;").years(seedOf(6, 0, 1, 0, 4, 3, 6, 3, 6, 3), 3, 1), 3);
        TownTable pence = Edge.town(walled);
        pence.stop(0, 1);
        Edge.asks("pence stay", pence, t -> t.years(seedOf(6, 1, 2, 1, 4, 2, 6, 0, 2, 0, 4, 2), 2, 2), 2);
        Edge.says("(Without FIGURES the DRAWS of 6 alone.)");
        for (int what = 0; what <= 2; what++) {
            Edge.is("nobody, what " + what, new TownTable().years(1, 100, what), 0);
            Edge.is("nobody, what " + what, new TownTable().years(seedOf(6, 1, 6, 0, 6, 2), 3, what), 0);
        }
    }

    /** Four who stay, told by the draws alone: where they are lifted to, and for how long they are held. */
    private static void byDraws(int seed) {
        TownTable x = Edge.town("table 3 3;wall 4;figure 0 0;figure 1 0;figure 2 0;figure 3 0;");
        int[] draws = drawsOf(seed, 300);
        int[] cell = {0, 1, 2, 3};
        int[] held = new int[4];
        int[] sore = new int[4];
        int at = 0;
        int crowded = 0;
        for (int hour = 1; hour <= 100; hour++) {
            int fate = draws[at++] % 6;
            int who = fate < 3 ? draws[at++] % 4 : 0;
            int drawn = fate < 2 ? draws[at++] : 0;
            if (fate == 0) {
                held[who] = drawn % 4;
            } else if (fate == 1 && drawn % 9 != 4) {
                held[who] = 0;
                cell[who] = drawn % 9;
            } else if (fate == 2) {
                sore[who] = 0;
            }
            int places = 0;
            int all = 0;
            for (int f = 0; f < 4; f++) {
                sore[f] += held[f] > 0 ? 1 : 0;
                held[f] -= held[f] > 0 ? 1 : 0;
                places |= 1 << cell[f];
                all += sore[f];
            }
            crowded += Integer.bitCount(places) < 4 ? 1 : 0;
            Edge.is("crowded by " + seed + " in " + hour, x.years(seed, hour, 0), crowded);
            Edge.is("sore by " + seed + " behind " + hour, x.years(seed, hour, 1), all);
            Edge.is("cells by " + seed + " behind " + hour, x.years(seed, hour, 2), Integer.bitCount(places));
        }
    }

    private static void status() {
        Edge.says("STATUS: how many calls were refused: 0 of TEXTS with a FAULT, 1 of ACTS, 2 of what is NOTED.");
        TownTable x = Edge.town(Edge.TOWN);
        int[] due = new int[3];
        Edge.On[][] calls = {
            {t -> Check.town(t, "x"), t -> Check.town(t, "wall 20;")},
            {t -> t.hours(0), t -> t.stop(0, 10), t -> t.lift(0, 5), t -> t.brush(0), t -> t.wall(0, true) ? 1 : 0},
            {t -> t.note(0, 0, 21), t -> t.note(0, 0, -1)}};
        for (int status = 0; status < 3; status++) {
            for (Edge.On call : calls[status]) {
                call.of(x);
                due[status]++;
                for (int s = 0; s < 3; s++) {
                    Edge.is("STATUS " + s, x.count(15 + s), due[s]);
                }
            }
        }
        Edge.On[] others = {t -> t.undo(), t -> t.restore() ? 1 : 0, t -> t.town(999), t -> t.stop(9, 0),
            t -> t.note(9, 0, 99), t -> t.lift(0, 99), t -> t.then(0, 999, 0), t -> t.count(99), t -> t.comes(2, 0)};
        for (Edge.On call : others) {
            Check.answer(() -> call.of(x));
        }
        for (int s = 0; s < 3; s++) {
            Edge.is("nothing else counts: STATUS " + s, x.count(15 + s), due[s]);
        }
        x.image();
        x.hours(0);
        x.restore();
        x.hours(1);
        x.undo();
        Edge.is("it is neither restored nor undone", x.count(16), due[1] + 1);
        x.town(0);
        Edge.is("nor gone with a town", x.count(16), due[1] + 1);
    }

    private static void noteAndForget() {
        Edge.of("Promise 25");
        Edge.says("NOTED: how much is.");
        TownTable x = Edge.town(Edge.TOWN);
        for (int i = 1; i <= 8; i++) {
            Edge.is("note " + i, x.note(0, 11, i == 8 ? 20 : 0), i);
        }
        Edge.is("no act", x.count(12), 0);
        Edge.is("of a wall, too", Edge.town(Edge.TOWN).note(0, 5, 0), 1);
        Edge.says("NONE (STATUS 2): there are 8,");
        Edge.refused("a ninth", x, Edge.NOTE, t -> t.note(0, 0, 0), Edge.NONE);
        Edge.refused("a ninth that is wrong, once", x, Edge.NOTE, t -> t.note(0, 0, 21), Edge.NONE);
        Edge.says("not 0 to 20.");
        for (int hours : Edge.outside(0, 20)) {
            Edge.refused(hours + " hours", Edge.town(Edge.TOWN), Edge.NOTE, t -> t.note(0, 0, hours), Edge.NONE);
        }
        Edge.says("NoSuchElementException (ahead): no such FIGURE, CELL.");
        TownTable full = Edge.town("table 2 2;figure 0 0;");
        for (int i = 0; i < 8; i++) {
            full.note(0, 0, 0);
        }
        for (int hours : new int[] {0, 21}) {
            Edge.throwsBoth("no such figure, " + hours, t -> t.note(2, 0, hours), Edge.NSE);
            Edge.throwsBoth("no such cell, " + hours, t -> t.note(0, 4, hours), Edge.NSE);
            Edge.refused("figure, full", full, Edge.UNCOUNTED, t -> t.note(1, 0, hours), Edge.NSE);
            Edge.refused("cell, full", full, Edge.UNCOUNTED, t -> t.note(0, -1, hours), Edge.NSE);
        }
        Edge.of("Promise 26");
        Edge.says("All that is NOTED is forgotten.");
        Edge.is("full", full.count(13), 8);
        full.forget();
        Edge.is("none", full.count(13), 0);
        full.forget();
        Edge.is("none of none", full.count(13), 0);
        Edge.is("room again", full.note(0, 3, 0), 1);
        Edge.is("not so", full.ahead(2), 0);
        full.forget();
        Edge.is("so", full.ahead(2), 1);
        Edge.is("no act", full.undo(), Edge.NONE);
    }

    private static void aheadAndLook() {
        Edge.of("Promise 27");
        Edge.says("AHEAD: how many (what 0), the first (1; NONE: none), whether without (2).");
        TownTable x = Edge.town("table 6 6;figure 0 0;figure 14 1 2 3 4;figure 7 2 4;");
        Edge.is("how many", x.ahead(0), 4);
        Edge.is("the first", x.ahead(1), 11);
        Edge.is("without", x.ahead(2), 1);
        x.note(2, 6, 1);
        Edge.is("one", x.ahead(0), 1);
        Edge.is("the last figure", x.ahead(1), 21);
        Edge.is("not without", x.ahead(2), 0);
        x.note(0, 1, 0);
        Edge.is("none", x.ahead(0), 0);
        Edge.is("no first", x.ahead(1), Edge.NONE);
        Edge.asks("not without", Edge.town("table 2 2;figure 0 2 4;"), t -> t.ahead(1), 1);
        Edge.is("its lead stays", x.figure(2, 5), 0);
        Edge.says("NoSuchElementException: another what.");
        for (int what : new int[] {-1, 3, Edge.LOW, Edge.FAR}) {
            Edge.throwsBoth(what + " for what", t -> t.ahead(what), Edge.NSE);
        }
        Edge.of("Promise 28");
        Edge.says("LOOK NEXT (what 0; NONE), how many (1; 0: none).");
        Edge.is("no guess", x.look(0), Edge.NONE);
        Edge.is("none", x.look(1), 0);
        x.forget();
        Edge.is("who", x.look(0), 1);
        Edge.is("how many", x.look(1), 4);
        Edge.asks("of like ones the least", Edge.town("table 2 2;figure 0 0;figure 0 0 0;"), t -> t.look(0), 0);
        Edge.says("NoSuchElementException: another what.");
        for (int what : new int[] {-1, 2, Edge.LOW, Edge.FAR}) {
            Edge.throwsBoth(what + " for what", t -> t.look(what), Edge.NSE);
        }
    }

    private static void cloudsAndGame() {
        Edge.of("Promise 29");
        Edge.says("CLOUDS.");
        TownTable x = Edge.town("table 2 2;figure 0 2;figure 3 0;");
        x.stop(0, 5);
        Edge.asks("dull in all of five", x, t -> t.clouds(0, 0, 5, 1), 59049);
        Edge.is("a cell where nobody comes", x.clouds(0, 2, 5, 10), 0);
        Edge.says("IllegalArgumentException (behind NoSuchElementException): hours, tenths.");
        for (int hours : Edge.outside(1, 5)) {
            Edge.throwsBoth(hours + " hours", t -> t.clouds(0, 0, hours, 5), Edge.IAE);
            Edge.call("no such figure ahead", () -> x.clouds(2, 0, hours, 5), Edge.NSE);
            Edge.call("no such cell ahead", () -> x.clouds(0, 4, hours, 5), Edge.NSE);
        }
        for (int tenths : Edge.outside(0, 10)) {
            Edge.throwsBoth(tenths + " tenths", t -> t.clouds(0, 0, 1, tenths), Edge.IAE);
            Edge.call("no such figure ahead", () -> x.clouds(-1, 0, 1, tenths), Edge.NSE);
            Edge.call("no such cell ahead", () -> x.clouds(0, -1, 1, tenths), Edge.NSE);
        }
        Edge.of("Promise 30");
        Edge.says("A GAME: how many couples rest (what 0), the first (1; NONE: none).");
        Edge.asks("all", Edge.town("figure 0 0;figure 9 0;hurts 0;"), t -> t.game(0, 1, 0), 4);
        Edge.is("the first", Edge.town("figure 0 0;figure 9 0;hurts 0;").game(1, 0, 1), 0);
        TownTable none = Edge.town("table 4 2;figure 3 4;figure 2 4;figure 2 2 1;goes with;");
        Edge.is("none", none.game(0, 1, 0), 0);
        Edge.is("no first", none.game(0, 1, 1), Edge.NONE);
        Edge.says("NoSuchElementException: also another what.");
        for (int what : new int[] {-1, 2, Edge.LOW, Edge.FAR}) {
            Edge.throwsBoth(what + " for what", t -> t.game(0, 1, what), Edge.NSE);
            Edge.throwsBoth(what + " for what, both are one", t -> t.game(1, 1, what), Edge.NSE);
        }
        Edge.says("IllegalArgumentException (behind that): both are one.");
        for (int f = 0; f < 2; f++) {
            int both = f;
            Edge.throwsBoth("both are " + f, t -> t.game(both, both, 0), Edge.IAE);
            Edge.throwsBoth("both are " + f + ", the first", t -> t.game(both, both, 1), Edge.IAE);
        }
        Edge.call("both are none that there is", () -> x.game(2, 2, 0), Edge.NSE);
    }

    private static void yearsRefused() {
        Edge.of("Promise 31");
        Edge.says("YEARS: HOURS (what 0), SORE (1), CELLS (2).");
        TownTable x = Edge.town("table 2 2;figure 0 0;figure 0 0;figure 3 0;");
        int seed = seedOf(6, 0, 3, 2, 4, 2, 6, 5);
        int[] due = {2, 2, 2};
        for (int what = 0; what <= 2; what++) {
            Edge.is("what " + what, x.years(seed, 2, what), due[what]);
        }
        Edge.asks("a hundred hours of one", Edge.town("table 2 2;figure 0 2 3;wall 1;"), t -> t.years(7, 100, 2), 1);
        Edge.says("NoSuchElementException: another what.");
        for (int what : new int[] {-1, 3, Edge.LOW, Edge.FAR}) {
            Edge.throwsBoth(what + " for what", t -> t.years(1, 1, what), Edge.NSE);
            Edge.call("ahead of a wrong n", () -> x.years(1, 101, what), Edge.NSE);
        }
        Edge.says("IllegalArgumentException (behind that): n.");
        for (int n : Edge.outside(0, 100)) {
            Edge.throwsBoth(n + " hours", t -> t.years(1, n, 0), Edge.IAE);
            Edge.call("nobody is there", () -> new TownTable().years(1, n, 2), Edge.IAE);
        }
    }
}

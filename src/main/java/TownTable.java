import java.util.Arrays;
import java.util.NoSuchElementException;

/** The town on a camera obscura's table; each public method keeps the document's promise of its name. */
public final class TownTable {
    public static final int NONE = -1;

    private static final int MOST_BYTES = 700;
    private static final int BYTES_A_FEED = 20;
    private static final int MOST_CELLS = 36;
    private static final int MOST_FIGURES = 8;
    private static final int MOST_SEATS = 8;
    private static final int MOST_STEPS = 8;
    private static final int MOST_LIGHTS = 8;
    private static final int MOST_ACTS = 40;
    private static final int MOST_NOTES = 8;
    private static final int MOST_DIGITS = 4;
    private static final int MOST_NUMBER = 9999;
    private static final int MOST_NESTED = 6;
    private static final int MOST_NOTS = 6;
    private static final int MOST_SORE = 99;
    private static final int MOST_HURT = 9;
    private static final int SORE_STAYS = 10;
    private static final int MOST_HELD = 9;
    private static final int MOST_AT_ONCE = 20;
    private static final int LAST_HOUR = 9999;
    private static final int MOST_PENCE = 9999;
    private static final int MOST_FORESEEN = 100;
    private static final int MOST_ROUND = 200;
    private static final int MOST_THINNED = 60;
    private static final int MOST_NOTED_HOURS = 20;
    private static final int LOOK_HOURS = 5;
    private static final int MOST_CLOUDS = 5;
    private static final int GAME_HOURS = 8;
    private static final int GAME_HELD = 3;

    private static final int REFUSED_TEXT = 0;
    private static final int REFUSED_ACT = 1;
    private static final int REFUSED_NOTE = 2;

    private static final int FINE = 0;
    private static final int CANNOT_STAND = 1;
    private static final int TOO_MUCH = 2;
    private static final int UNKNOWN = 3;
    private static final int WALLED = 4;
    private static final int TOLD_TWICE = 5;

    private static final int END = 0;
    private static final int WORD = 1;
    private static final int NUMBER = 2;
    private static final int SIGN = 3;
    private static final int NO_TOKEN = 4;

    // In a rule's code a number stands for itself, a VALUE for -1 less its place, an operator for one of these.
    private static final int OR = -11;
    private static final int AND = -12;
    private static final int NOT = -13;
    private static final int LESS = -14;
    private static final int EQUAL = -15;
    private static final int PLUS = -16;
    private static final int MINUS = -17;
    private static final int TIMES = -18;
    private static final int OVER = -19;
    private static final int OPEN = -20;

    private static final int SORE = 0;
    private static final int LIGHT = 1;
    private static final int WITH = 2;
    private static final int HOUR = 3;
    private static final int STEP = 4;
    private static final int HELD = 5;
    private static final int VALUES = 6;

    private final Tape tape = new Tape();
    private final PlanReader reader = new PlanReader();
    private int faultPlace = NONE;
    private final int[] refused = new int[3];
    private Plan plan = new Plan();
    private Plan spare = new Plan();
    private final State now = new State();
    private final Diary diary = new Diary();
    private boolean imaged;
    private final State imageState = new State();
    private final Diary imageDiary = new Diary();
    private final Mover mover = new Mover();
    private final State future = new State();
    private final Ways ways = new Ways();
    private final Seating seating = new Seating();
    private final Guesses guesses = new Guesses();
    private final int[] visits = new int[MOST_CELLS];
    private final int[] met = new int[MOST_FIGURES];
    private final int[] gains = new int[8];
    private int seed;

    public TownTable() {
        plan.clear();
        now.begin(plan);
    }

    public int feed(int a, int b, int c, int d, int e) {
        if (tape.size + BYTES_A_FEED > MOST_BYTES) {
            return NONE;
        }
        tape.add(a);
        tape.add(b);
        tape.add(c);
        tape.add(d);
        tape.add(e);
        return tape.size;
    }

    public int town(int n) throws IllegalArgumentException {
        if (n < 0 || n > tape.size) {
            throw new IllegalArgumentException("the tape has not so many bytes");
        }
        int fault = reader.read(tape, n, spare);
        tape.size = 0;
        if (fault != FINE) {
            faultPlace = tape.place;
            refused[REFUSED_TEXT]++;
            return fault;
        }
        faultPlace = NONE;
        Plan old = plan;
        plan = spare;
        spare = old;
        now.begin(plan);
        diary.clearActs();
        diary.clearNotes();
        imaged = false;
        return FINE;
    }

    public int fault() {
        return faultPlace;
    }

    public int count(int what) throws NoSuchElementException {
        switch (what) {
            case 0: return plan.figures;
            case 1: return plan.seats;
            case 2: return plan.width;
            case 3: return plan.height;
            case 4: return now.hour;
            case 5: return plan.lightOf(now.hour);
            case 6: return plan.isDull(now.hour) ? 1 : 0;
            case 7: return now.pence;
            case 8: return Long.bitCount(now.walls);
            case 9: return ways.parts(plan, now);
            case 10: return now.soreOfAll();
            case 11: return now.heldBits();
            case 12: return diary.acts;
            case 13: return diary.notes;
            case 14: return tape.size;
            case 15: return refused[REFUSED_TEXT];
            case 16: return refused[REFUSED_ACT];
            case 17: return refused[REFUSED_NOTE];
            default: throw new NoSuchElementException("no such count");
        }
    }

    public int figure(int figure, int what) throws NoSuchElementException {
        checkFigure(figure);
        switch (what) {
            case 0: return now.cell[figure];
            case 1: return plan.steps[figure];
            case 2: return now.sore[figure];
            case 3: return now.held[figure];
            case 4: return plan.stepOf(figure, now.hour + now.lead[figure]);
            case 5: return now.lead[figure];
            case 6: return now.othersWith(figure);
            default: throw new NoSuchElementException("no such thing of a figure");
        }
    }

    public int cell(int cell, int what) throws NoSuchElementException {
        checkCell(cell);
        switch (what) {
            case 0: return now.isWall(cell) ? 1 : 0;
            case 1: return now.figuresAt(cell);
            case 2: return plan.seatsAt(cell);
            case 3: return ways.seenFrom(plan, now, cell);
            default: throw new NoSuchElementException("no such thing of a cell");
        }
    }

    public int hours(int many) {
        if (many < 1 || many > MOST_AT_ONCE || now.hour + many > LAST_HOUR) {
            return refuseAct();
        }
        diary.keep(now);
        mover.passHours(plan, now, many);
        return now.hour;
    }

    public int stop(int figure, int hours) throws NoSuchElementException {
        checkFigure(figure);
        if (plan.isDull(now.hour) || hours < 1 || hours > MOST_HELD) {
            return refuseAct();
        }
        diary.keep(now);
        now.held[figure] = hours;
        pay(1);
        return now.pence;
    }

    public int lift(int figure, int cell) throws NoSuchElementException {
        checkFigure(figure);
        checkCell(cell);
        int was = now.cell[figure];
        if (plan.isDull(now.hour) || was == cell || now.isWall(cell)) {
            return refuseAct();
        }
        diary.keep(now);
        now.cell[figure] = cell;
        now.held[figure] = 0;
        pay(3);
        return was;
    }

    public int brush(int figure) throws NoSuchElementException {
        checkFigure(figure);
        int was = now.sore[figure];
        if (was == 0) {
            return refuseAct();
        }
        diary.keep(now);
        now.sore[figure] = 0;
        return was;
    }

    public boolean wall(int cell, boolean is) throws NoSuchElementException {
        checkCell(cell);
        if (now.isWall(cell) == is || now.figuresAt(cell) != 0 || plan.seatsAt(cell) != 0) {
            refuseAct();
            return false;
        }
        diary.keep(now);
        now.walls = now.walls ^ (1L << cell);
        return true;
    }

    public int undo() {
        if (diary.acts == 0) {
            return NONE;
        }
        diary.takeBack(now);
        return diary.acts;
    }

    public int then(int figure, int hours, int what) throws NoSuchElementException, IllegalArgumentException {
        checkFigure(figure);
        checkWhat(what, 2);
        checkHours(hours, 0, MOST_FORESEEN);
        foresee(hours);
        if (what == 0) {
            return future.cell[figure];
        }
        return what == 1 ? future.sore[figure] : future.held[figure];
    }

    public int comes(int figure, int cell) throws NoSuchElementException {
        checkFigure(figure);
        checkCell(cell);
        foresee(0);
        for (int hour = 0; hour <= MOST_FORESEEN; hour++) {
            if (future.cell[figure] == cell) {
                return hour;
            }
            passFuture();
        }
        return NONE;
    }

    public int meet(int figure, int other) throws NoSuchElementException {
        checkFigure(figure);
        checkFigure(other);
        if (figure == other) {
            return NONE;
        }
        foresee(0);
        for (int hour = 0; hour <= MOST_FORESEEN; hour++) {
            if (future.cell[figure] == future.cell[other]) {
                return hour;
            }
            passFuture();
        }
        return NONE;
    }

    public int crowd(int hours, int what) throws NoSuchElementException, IllegalArgumentException {
        checkWhat(what, 1);
        checkHours(hours, 0, MOST_FORESEEN);
        foresee(hours);
        int most = 0;
        int where = NONE;
        for (int cell = 0; cell < plan.cells(); cell++) {
            int here = Integer.bitCount(future.figuresAt(cell));
            if (here > most) {
                most = here;
                where = cell;
            }
        }
        return what == 0 ? most : where;
    }

    public int round() {
        foresee(0);
        for (int hour = 1; hour <= MOST_ROUND; hour++) {
            passFuture();
            if (future.isPlacedAs(now)) {
                return hour;
            }
        }
        return NONE;
    }

    public int spread(int figure, int hours) throws NoSuchElementException, IllegalArgumentException {
        checkFigure(figure);
        checkHours(hours, 0, MOST_FORESEEN);
        foresee(0);
        long places = 1L << future.cell[figure];
        for (int hour = 1; hour <= hours; hour++) {
            passFuture();
            places = places | (1L << future.cell[figure]);
        }
        return Long.bitCount(places);
    }

    public int way(int cell, int to, int what) throws NoSuchElementException {
        checkCell(cell);
        checkCell(to);
        checkWhat(what, 1);
        ways.measure(plan, now, to);
        return what == 0 ? ways.far[cell] : ways.firstStep(plan, now, cell);
    }

    public int toStop(int figure, int cell, int hours) throws NoSuchElementException, IllegalArgumentException {
        checkFigure(figure);
        checkCell(cell);
        checkHours(hours, 0, MOST_FORESEEN);
        for (int held = 0; held <= MOST_HELD; held++) {
            future.copyFrom(now);
            future.held[figure] = held;
            mover.passHours(plan, future, hours);
            if (future.cell[figure] == cell) {
                return held;
            }
        }
        return NONE;
    }

    public int toThin(int hours) throws IllegalArgumentException {
        checkHours(hours, 0, MOST_THINNED);
        Arrays.fill(met, 0);
        foresee(0);
        addMeetings();
        for (int hour = 1; hour <= hours; hour++) {
            passFuture();
            addMeetings();
        }
        int fewest = (1 << plan.figures) - 1;
        for (int taken = fewest; taken >= 0; taken--) {
            if (Integer.bitCount(taken) <= Integer.bitCount(fewest) && noneMeets(taken)) {
                fewest = taken;
            }
        }
        return fewest;
    }

    public int seats(int what) throws NoSuchElementException {
        checkWhat(what, 1);
        seating.place(plan, now, ways);
        return what == 0 ? seating.placed : seating.far;
    }

    public int seat(int figure) throws NoSuchElementException {
        checkFigure(figure);
        seating.place(plan, now, ways);
        return seating.seatOf[figure];
    }

    public int note(int figure, int cell, int hours) throws NoSuchElementException {
        checkFigure(figure);
        checkCell(cell);
        if (diary.notes >= MOST_NOTES || hours < 0 || hours > MOST_NOTED_HOURS) {
            refused[REFUSED_NOTE]++;
            return NONE;
        }
        diary.add(figure, cell, hours);
        return diary.notes;
    }

    public void forget() {
        diary.clearNotes();
    }

    public int ahead(int what) throws NoSuchElementException {
        checkWhat(what, 2);
        if (what == 2) {
            future.copyFrom(now);
            return guesses.holdsAll(plan, future, diary, mover) ? 1 : 0;
        }
        guesses.search(plan, now, diary, mover);
        return what == 0 ? guesses.many : guesses.first;
    }

    public int look(int what) throws NoSuchElementException {
        checkWhat(what, 1);
        guesses.search(plan, now, diary, mover);
        int most = 0;
        int who = NONE;
        for (int figure = 0; figure < plan.figures; figure++) {
            int unlike = Long.bitCount(guesses.places[figure]);
            if (unlike > most) {
                most = unlike;
                who = figure;
            }
        }
        return what == 0 ? who : most;
    }

    public int clouds(int figure, int cell, int hours, int tenths)
            throws NoSuchElementException, IllegalArgumentException {
        checkFigure(figure);
        checkCell(cell);
        checkHours(hours, 1, MOST_CLOUDS);
        checkHours(tenths, 0, 10);
        int likely = 0;
        for (int sky = 0; sky < (1 << hours); sky++) {
            int weight = 1;
            future.copyFrom(now);
            for (int hour = 0; hour < hours; hour++) {
                boolean dull = ((sky >> hour) & 1) != 0;
                weight = weight * (dull ? tenths : 10 - tenths);
                mover.passHour(plan, future, dull);
            }
            if (future.cell[figure] == cell) {
                likely = likely + weight;
            }
        }
        return likely;
    }

    public int game(int figure, int other, int what) throws NoSuchElementException, IllegalArgumentException {
        checkFigure(figure);
        checkFigure(other);
        checkWhat(what, 1);
        if (figure == other) {
            throw new IllegalArgumentException("both are one");
        }
        for (int choices = 0; choices < 4; choices++) {
            play(figure, other, choices);
        }
        int many = 0;
        int first = NONE;
        for (int choices = 3; choices >= 0; choices--) {
            if (rests(choices)) {
                many++;
                first = 10 * (choices >> 1) + (choices & 1);
            }
        }
        return what == 0 ? many : first;
    }

    public int years(int seed, int n, int what) throws NoSuchElementException, IllegalArgumentException {
        checkWhat(what, 2);
        checkHours(n, 0, MOST_FORESEEN);
        this.seed = seed;
        foresee(0);
        int crowded = 0;
        for (int hour = 0; hour < n; hour++) {
            drawFate();
            passFuture();
            if (Long.bitCount(future.places()) < plan.figures) {
                crowded++;
            }
        }
        if (what == 0) {
            return crowded;
        }
        return what == 1 ? future.soreOfAll() : Long.bitCount(future.places());
    }

    public int later(int hours, int what) throws NoSuchElementException, IllegalArgumentException {
        checkWhat(what, 3);
        checkHours(hours, what == 0 ? 1 : 0, MOST_FORESEEN);
        if (what == 0) {
            return busiest(hours);
        }
        if (what == 1) {
            return sorest(hours);
        }
        return what == 2 ? alone(hours) : stuck(hours);
    }

    public int together(int figure, int other, int hours) throws NoSuchElementException, IllegalArgumentException {
        checkFigure(figure);
        checkFigure(other);
        checkHours(hours, 1, MOST_FORESEEN);
        foresee(0);
        int many = 0;
        for (int hour = 0; hour < hours; hour++) {
            passFuture();
            if (future.cell[figure] == future.cell[other]) {
                many++;
            }
        }
        return many;
    }

    public int quiet(int cell, int hours) throws NoSuchElementException, IllegalArgumentException {
        checkCell(cell);
        checkHours(hours, 1, MOST_FORESEEN);
        foresee(0);
        int many = 0;
        for (int hour = 0; hour < hours; hour++) {
            passFuture();
            if (future.figuresAt(cell) == 0) {
                many++;
            }
        }
        return many;
    }

    public int gone(int figure, int hours) throws NoSuchElementException, IllegalArgumentException {
        checkFigure(figure);
        checkHours(hours, 0, MOST_FORESEEN);
        foresee(0);
        int many = 0;
        for (int hour = 0; hour < hours; hour++) {
            int was = future.cell[figure];
            passFuture();
            if (future.cell[figure] != was) {
                many++;
            }
        }
        return many;
    }

    public void image() {
        imaged = true;
        imageState.copyFrom(now);
        imageDiary.copyFrom(diary);
    }

    public boolean restore() {
        if (!imaged) {
            return false;
        }
        now.copyFrom(imageState);
        diary.copyFrom(imageDiary);
        return true;
    }

    private void checkFigure(int figure) {
        if (figure < 0 || figure >= plan.figures) {
            throw new NoSuchElementException("no such figure");
        }
    }

    private void checkCell(int cell) {
        if (cell < 0 || cell >= plan.cells()) {
            throw new NoSuchElementException("no such cell");
        }
    }

    private static void checkWhat(int what, int last) {
        if (what < 0 || what > last) {
            throw new NoSuchElementException("no such thing to ask");
        }
    }

    private static void checkHours(int hours, int least, int most) {
        if (hours < least || hours > most) {
            throw new IllegalArgumentException("not so many");
        }
    }

    private int refuseAct() {
        refused[REFUSED_ACT]++;
        return NONE;
    }

    private void pay(int pence) {
        now.pence = Math.min(MOST_PENCE, now.pence + pence);
    }

    private void foresee(int hours) {
        future.copyFrom(now);
        mover.passHours(plan, future, hours);
    }

    private void passFuture() {
        mover.passHour(plan, future, plan.isDull(future.hour));
    }

    private void addMeetings() {
        for (int figure = 0; figure < plan.figures; figure++) {
            met[figure] = met[figure] | (future.figuresAt(future.cell[figure]) & ~(1 << figure));
        }
    }

    private boolean noneMeets(int taken) {
        for (int figure = 0; figure < plan.figures; figure++) {
            if (((taken >> figure) & 1) == 0 && (met[figure] & ~taken) != 0) {
                return false;
            }
        }
        return true;
    }

    private void play(int figure, int other, int choices) {
        future.copyFrom(now);
        if ((choices & 2) != 0) {
            future.held[figure] = GAME_HELD;
        }
        if ((choices & 1) != 0) {
            future.held[other] = GAME_HELD;
        }
        int gain = 0;
        int otherGain = 0;
        for (int hour = 0; hour < GAME_HOURS; hour++) {
            passFuture();
            gain += future.othersWith(figure) > 0 ? 2 : 0;
            otherGain += future.othersWith(other) > 0 ? 2 : 0;
        }
        gains[2 * choices] = gain - future.sore[figure] / 2;
        gains[2 * choices + 1] = otherGain - future.sore[other] / 2;
    }

    private boolean rests(int choices) {
        boolean firstRests = gains[2 * choices] >= gains[2 * (choices ^ 2)];
        return firstRests && gains[2 * choices + 1] >= gains[2 * (choices ^ 1) + 1];
    }

    private int draw(int of) {
        seed = seed * 1103515245 + 12345;
        return of > 0 ? ((seed >>> 16) & 32767) % of : 0;
    }

    private void drawFate() {
        int fate = draw(6);
        if (fate > 2 || plan.figures == 0) {
            return;
        }
        int figure = draw(plan.figures);
        if (fate == 0) {
            future.held[figure] = draw(4);
        } else if (fate == 1) {
            int cell = draw(plan.cells());
            if (!future.isWall(cell)) {
                future.cell[figure] = cell;
                future.held[figure] = 0;
            }
        } else {
            future.sore[figure] = 0;
        }
    }

    private int busiest(int hours) {
        Arrays.fill(visits, 0);
        foresee(0);
        for (int hour = 0; hour < hours; hour++) {
            passFuture();
            for (int figure = 0; figure < plan.figures; figure++) {
                visits[future.cell[figure]]++;
            }
        }
        int most = 0;
        int where = NONE;
        for (int cell = 0; cell < MOST_CELLS; cell++) {
            if (visits[cell] > most) {
                most = visits[cell];
                where = cell;
            }
        }
        return where;
    }

    private int sorest(int hours) {
        foresee(hours);
        int most = 0;
        int who = NONE;
        for (int figure = 0; figure < plan.figures; figure++) {
            if (future.sore[figure] > most) {
                most = future.sore[figure];
                who = figure;
            }
        }
        return who;
    }

    private int alone(int hours) {
        foresee(0);
        int bits = future.aloneBits();
        for (int hour = 0; hour < hours; hour++) {
            passFuture();
            bits = bits & future.aloneBits();
        }
        return bits;
    }

    private int stuck(int hours) {
        foresee(0);
        int bits = (1 << plan.figures) - 1;
        for (int hour = 0; hour < hours; hour++) {
            passFuture();
            bits = bits & future.placedAsBits(now);
        }
        return bits;
    }

    /** What a TEXT tells. */
    private static final class Plan {
        int width;
        int height;
        long walls;
        int figures;
        final int[] start = new int[MOST_FIGURES];
        final int[] steps = new int[MOST_FIGURES];
        final int[] way = new int[MOST_FIGURES * MOST_STEPS];
        int seats;
        final int[] seatCell = new int[MOST_SEATS];
        int lights;
        final int[] light = new int[MOST_LIGHTS];
        boolean dullTold;
        int dullBelow;
        final Rule goes = new Rule();
        final Rule hurts = new Rule();

        void clear() {
            width = 5;
            height = 4;
            walls = 0;
            figures = 0;
            seats = 0;
            lights = 0;
            dullTold = false;
            dullBelow = 3;
            goes.clear();
            hurts.clear();
        }

        int cells() {
            return width * height;
        }

        int lightOf(int hour) {
            return lights > 0 ? light[hour % lights] : 5;
        }

        boolean isDull(int hour) {
            return lightOf(hour) < dullBelow;
        }

        int stepOf(int figure, int place) {
            int many = steps[figure];
            return many > 0 ? way[figure * MOST_STEPS + place % many] : 0;
        }

        int seatsAt(int cell) {
            int bits = 0;
            for (int seat = 0; seat < seats; seat++) {
                if (seatCell[seat] == cell) {
                    bits = bits | (1 << seat);
                }
            }
            return bits;
        }

        boolean isWall(int cell) {
            return ((walls >>> cell) & 1L) != 0;
        }

        boolean isStart(int cell) {
            for (int figure = 0; figure < figures; figure++) {
                if (start[figure] == cell) {
                    return true;
                }
            }
            return false;
        }

        int beside(int cell, int step) {
            int x = width > 0 ? cell % width : 0;
            switch (step) {
                case 0: return cell;
                case 1: return cell >= width ? cell - width : NONE;
                case 2: return x + 1 < width ? cell + 1 : NONE;
                case 3: return cell + width < cells() ? cell + width : NONE;
                default: return x > 0 ? cell - 1 : NONE;
            }
        }
    }

    /** An EXPR, its operators behind what they take. */
    private static final class Rule {
        // Six EXPRs within one another leave at most five operands waiting in each, and one more.
        private final int[] stack = new int[48];
        private final int[] code = new int[MOST_BYTES];
        private int size;

        void clear() {
            size = 0;
        }

        boolean isTold() {
            return size > 0;
        }

        void add(int item) {
            if (size < MOST_BYTES) {
                code[size] = item;
                size++;
            }
        }

        int value(int[] values) {
            int top = -1;
            for (int i = 0; i < size; i++) {
                int item = code[i];
                if (item >= -VALUES) {
                    if (top + 1 < stack.length) {
                        top++;
                        stack[top] = item >= 0 ? item : values[-1 - item];
                    }
                } else if (item == NOT) {
                    if (top >= 0) {
                        stack[top] = stack[top] == 0 ? 1 : 0;
                    }
                } else if (top >= 1) {
                    top--;
                    stack[top] = join(item, stack[top], stack[top + 1]);
                }
            }
            return top >= 0 ? stack[top] : 0;
        }

        private static int join(int operator, int left, int right) {
            switch (operator) {
                case OR: return left != 0 || right != 0 ? 1 : 0;
                case AND: return left != 0 && right != 0 ? 1 : 0;
                case LESS: return left < right ? 1 : 0;
                case EQUAL: return left == right ? 1 : 0;
                case PLUS: return left + right;
                case MINUS: return left - right;
                case TIMES: return left * right;
                default: return right == 0 ? 0 : left / right;
            }
        }
    }

    /** The fed bytes, and the TOKEN of them that is looked at. */
    private static final class Tape {
        private final char[] bytes = new char[MOST_BYTES];
        int size;
        private int length;
        int place;
        private int end;
        int kind;
        int number;

        void add(int four) {
            for (int shift = 24; shift >= 0 && size < MOST_BYTES; shift -= 8) {
                bytes[size] = (char) ((four >>> shift) & 255);
                size++;
            }
        }

        void begin(int n) {
            length = n;
            end = 0;
            advance();
        }

        void advance() {
            place = end;
            while (place < length && (bytes[place] == 32 || bytes[place] == 10)) {
                place++;
            }
            end = place;
            if (place >= length) {
                kind = END;
                return;
            }
            char first = bytes[place];
            if (isLetter(first)) {
                kind = WORD;
                while (end < length && isLetter(bytes[end])) {
                    end++;
                }
            } else if (isDigit(first)) {
                readNumber();
            } else {
                kind = ";()+-*/<=".indexOf(first) >= 0 ? SIGN : NO_TOKEN;
                end++;
            }
        }

        private void readNumber() {
            kind = NUMBER;
            number = 0;
            while (end < length && isDigit(bytes[end])) {
                number = number * 10 + (bytes[end] - '0');
                end++;
            }
        }

        private static boolean isLetter(char c) {
            return c >= 'a' && c <= 'z';
        }

        private static boolean isDigit(char c) {
            return c >= '0' && c <= '9';
        }

        // Its digits are counted ahead of all else that is asked of a NUMBER: of one TOKEN the least FAULT is told,
        // and a longer row may have wrapped round to a number that there is.
        int numberFault(int least, int most) {
            if (kind != NUMBER) {
                return CANNOT_STAND;
            }
            if (end - place > MOST_DIGITS) {
                return TOO_MUCH;
            }
            return number < least || number > most ? TOO_MUCH : FINE;
        }

        boolean isSign(char sign) {
            return kind == SIGN && bytes[place] == sign;
        }

        int sign() {
            return kind == SIGN ? bytes[place] : NONE;
        }

        boolean isWord(String word) {
            if (kind != WORD || end - place != word.length()) {
                return false;
            }
            for (int i = 0; i < word.length(); i++) {
                if (bytes[place + i] != word.charAt(i)) {
                    return false;
                }
            }
            return true;
        }
    }

    /** Reads a TEXT's LINES into a Plan; each method answers a FAULT of the TOKEN that is looked at, or FINE. */
    private static final class PlanReader {
        private final RuleReader rules = new RuleReader();
        private int rowSize;

        int read(Tape tape, int n, Plan plan) {
            plan.clear();
            tape.begin(n);
            int fault = tape.isWord("table") ? readTable(tape, plan) : FINE;
            for (int line = 0; line < MOST_BYTES && fault == FINE && tape.kind != END; line++) {
                fault = readLine(tape, plan);
                if (fault == FINE) {
                    fault = readStop(tape);
                }
            }
            return fault;
        }

        private int readTable(Tape tape, Plan plan) {
            tape.advance();
            int fault = tape.numberFault(2, 6);
            if (fault != FINE) {
                return fault;
            }
            plan.width = tape.number;
            tape.advance();
            fault = tape.numberFault(2, 6);
            if (fault != FINE) {
                return fault;
            }
            plan.height = tape.number;
            tape.advance();
            return readStop(tape);
        }

        private static int readStop(Tape tape) {
            if (!tape.isSign(';')) {
                return CANNOT_STAND;
            }
            tape.advance();
            return FINE;
        }

        private int readLine(Tape tape, Plan plan) {
            if (tape.isWord("wall")) {
                return readWall(tape, plan);
            }
            if (tape.isWord("figure")) {
                return readFigure(tape, plan);
            }
            if (tape.isWord("seat")) {
                return readSeat(tape, plan);
            }
            if (tape.isWord("light")) {
                return readLight(tape, plan);
            }
            if (tape.isWord("dull")) {
                return readDull(tape, plan);
            }
            if (tape.isWord("goes")) {
                return rules.read(tape, plan.goes, false);
            }
            if (tape.isWord("hurts")) {
                return rules.read(tape, plan.hurts, true);
            }
            return CANNOT_STAND;
        }

        private static int cellFault(Tape tape, Plan plan) {
            int fault = tape.numberFault(0, MOST_NUMBER);
            if (fault != FINE) {
                return fault;
            }
            if (tape.number >= plan.cells()) {
                return UNKNOWN;
            }
            return plan.isWall(tape.number) ? WALLED : FINE;
        }

        private static int readWall(Tape tape, Plan plan) {
            tape.advance();
            int fault = cellFault(tape, plan);
            if (fault != FINE) {
                return fault;
            }
            if (plan.isStart(tape.number) || plan.seatsAt(tape.number) != 0) {
                return WALLED;
            }
            plan.walls = plan.walls | (1L << tape.number);
            tape.advance();
            return FINE;
        }

        private int readFigure(Tape tape, Plan plan) {
            if (plan.figures >= MOST_FIGURES) {
                return TOO_MUCH;
            }
            tape.advance();
            int fault = cellFault(tape, plan);
            if (fault != FINE) {
                return fault;
            }
            int figure = plan.figures;
            plan.start[figure] = tape.number;
            tape.advance();
            fault = readRow(tape, plan.way, figure * MOST_STEPS, 4);
            plan.steps[figure] = rowSize;
            plan.figures++;
            return fault;
        }

        private static int readSeat(Tape tape, Plan plan) {
            if (plan.seats >= MOST_SEATS) {
                return TOO_MUCH;
            }
            tape.advance();
            int fault = cellFault(tape, plan);
            if (fault != FINE) {
                return fault;
            }
            plan.seatCell[plan.seats] = tape.number;
            plan.seats++;
            tape.advance();
            return FINE;
        }

        private int readLight(Tape tape, Plan plan) {
            if (plan.lights > 0) {
                return TOLD_TWICE;
            }
            tape.advance();
            int fault = readRow(tape, plan.light, 0, 9);
            plan.lights = rowSize;
            return fault;
        }

        // STEPS and LIGHTS are told alike: one to eight numbers from 0 on.
        private int readRow(Tape tape, int[] row, int from, int most) {
            rowSize = 0;
            for (int i = 0; i <= MOST_STEPS && tape.kind == NUMBER; i++) {
                if (i == MOST_STEPS || tape.numberFault(0, most) != FINE) {
                    return TOO_MUCH;
                }
                if (from + i < row.length) {
                    row[from + i] = tape.number;
                }
                rowSize++;
                tape.advance();
            }
            return rowSize > 0 ? FINE : CANNOT_STAND;
        }

        private static int readDull(Tape tape, Plan plan) {
            if (plan.dullTold) {
                return TOLD_TWICE;
            }
            tape.advance();
            int fault = tape.numberFault(0, 9);
            if (fault != FINE) {
                return fault;
            }
            plan.dullTold = true;
            plan.dullBelow = tape.number;
            tape.advance();
            return FINE;
        }
    }

    /** Reads an EXPR into a Rule: operators wait until those that bind more have been put behind their operands. */
    private static final class RuleReader {
        private final int[] waiting = new int[128];
        private int waits;
        private int depth;
        private int nots;
        private boolean beginsNot;
        private boolean partIsDue;

        int read(Tape tape, Rule rule, boolean ofHurts) {
            if (rule.isTold()) {
                return TOLD_TWICE;
            }
            waits = 0;
            depth = 0;
            beginPart(true);
            tape.advance();
            int fault = FINE;
            for (int i = 0; i < MOST_BYTES && fault == FINE && !isEnd(tape); i++) {
                fault = partIsDue ? readPart(tape, rule, ofHurts) : readOperator(tape, rule);
                if (fault == FINE) {
                    tape.advance();
                }
            }
            if (fault == FINE) {
                release(rule, 0);
            }
            return fault;
        }

        private boolean isEnd(Tape tape) {
            return !partIsDue && depth == 0 && tape.isSign(';');
        }

        private void beginPart(boolean ofNot) {
            partIsDue = true;
            beginsNot = ofNot;
            nots = 0;
        }

        private int readPart(Tape tape, Rule rule, boolean ofHurts) {
            boolean opens = tape.isSign('(');
            if (!opens && tape.kind != NUMBER && tape.kind != WORD) {
                return CANNOT_STAND;
            }
            if (depth >= MOST_NESTED) {
                return TOO_MUCH;
            }
            if (opens) {
                push(OPEN);
                depth++;
                beginPart(true);
                return FINE;
            }
            return tape.kind == NUMBER ? readNumber(tape, rule) : readWord(tape, rule, valueOf(tape, ofHurts));
        }

        private int readNumber(Tape tape, Rule rule) {
            int fault = tape.numberFault(0, MOST_NUMBER);
            if (fault != FINE) {
                return fault;
            }
            rule.add(tape.number);
            partIsDue = false;
            return FINE;
        }

        private int readWord(Tape tape, Rule rule, int value) {
            if (beginsNot && tape.isWord("not")) {
                if (nots >= MOST_NOTS) {
                    return TOO_MUCH;
                }
                push(NOT);
                nots++;
                return FINE;
            }
            if (value == NONE) {
                return UNKNOWN;
            }
            rule.add(-1 - value);
            partIsDue = false;
            return FINE;
        }

        private static int valueOf(Tape tape, boolean ofHurts) {
            if (tape.isWord("sore")) {
                return SORE;
            }
            if (tape.isWord("light")) {
                return LIGHT;
            }
            if (tape.isWord("with")) {
                return WITH;
            }
            if (tape.isWord("hour")) {
                return HOUR;
            }
            if (!ofHurts && tape.isWord("step")) {
                return STEP;
            }
            return ofHurts && tape.isWord("held") ? HELD : NONE;
        }

        private int readOperator(Tape tape, Rule rule) {
            if (tape.isSign(')') && depth > 0) {
                release(rule, 0);
                waits = Math.max(0, waits - 1);
                depth--;
                return FINE;
            }
            int operator = operatorOf(tape);
            if (operator == NONE) {
                return CANNOT_STAND;
            }
            int rank = rankOf(operator);
            boolean tests = rank == rankOf(LESS);
            release(rule, tests ? rank + 1 : rank);
            if (tests && waits > 0 && rankOf(waiting[waits - 1]) == rank) {
                return CANNOT_STAND;
            }
            push(operator);
            beginPart(rank <= rankOf(AND));
            return FINE;
        }

        private static int operatorOf(Tape tape) {
            if (tape.isWord("or")) {
                return OR;
            }
            if (tape.isWord("and")) {
                return AND;
            }
            switch (tape.sign()) {
                case '<': return LESS;
                case '=': return EQUAL;
                case '+': return PLUS;
                case '-': return MINUS;
                case '*': return TIMES;
                case '/': return OVER;
                default: return NONE;
            }
        }

        private static int rankOf(int operator) {
            switch (operator) {
                case OR: return 1;
                case AND: return 2;
                case NOT: return 3;
                case LESS: case EQUAL: return 4;
                case PLUS: case MINUS: return 5;
                case TIMES: case OVER: return 6;
                default: return NONE;
            }
        }

        private void push(int operator) {
            if (waits < waiting.length) {
                waiting[waits] = operator;
                waits++;
            }
        }

        private void release(Rule rule, int leastRank) {
            while (waits > 0 && rankOf(waiting[waits - 1]) >= leastRank) {
                waits--;
                rule.add(waiting[waits]);
            }
        }
    }

    /** The town at an HOUR. */
    private static final class State {
        static final int ROW = 4 + 3 * MOST_FIGURES;

        int hour;
        int pence;
        long walls;
        int figures;
        final int[] cell = new int[MOST_FIGURES];
        final int[] sore = new int[MOST_FIGURES];
        final int[] held = new int[MOST_FIGURES];
        final int[] lead = new int[MOST_FIGURES];

        void begin(Plan plan) {
            hour = 0;
            pence = 0;
            walls = plan.walls;
            figures = plan.figures;
            System.arraycopy(plan.start, 0, cell, 0, MOST_FIGURES);
            Arrays.fill(sore, 0);
            Arrays.fill(held, 0);
            Arrays.fill(lead, 0);
        }

        void copyFrom(State other) {
            hour = other.hour;
            pence = other.pence;
            walls = other.walls;
            figures = other.figures;
            System.arraycopy(other.cell, 0, cell, 0, MOST_FIGURES);
            System.arraycopy(other.sore, 0, sore, 0, MOST_FIGURES);
            System.arraycopy(other.held, 0, held, 0, MOST_FIGURES);
            System.arraycopy(other.lead, 0, lead, 0, MOST_FIGURES);
        }

        // Neither who there is nor a LEAD changes by an ACT, so a row of them leaves both out.
        void saveTo(int[] rows, int from) {
            if (from < 0 || from + ROW > rows.length) {
                return;
            }
            rows[from] = hour;
            rows[from + 1] = pence;
            rows[from + 2] = (int) walls;
            rows[from + 3] = (int) (walls >>> 32);
            System.arraycopy(cell, 0, rows, from + 4, MOST_FIGURES);
            System.arraycopy(sore, 0, rows, from + 4 + MOST_FIGURES, MOST_FIGURES);
            System.arraycopy(held, 0, rows, from + 4 + 2 * MOST_FIGURES, MOST_FIGURES);
        }

        void loadFrom(int[] rows, int from) {
            if (from < 0 || from + ROW > rows.length) {
                return;
            }
            hour = rows[from];
            pence = rows[from + 1];
            walls = ((long) rows[from + 3] << 32) | (rows[from + 2] & 0xffffffffL);
            System.arraycopy(rows, from + 4, cell, 0, MOST_FIGURES);
            System.arraycopy(rows, from + 4 + MOST_FIGURES, sore, 0, MOST_FIGURES);
            System.arraycopy(rows, from + 4 + 2 * MOST_FIGURES, held, 0, MOST_FIGURES);
        }

        boolean isWall(int place) {
            return ((walls >>> place) & 1L) != 0;
        }

        int figuresAt(int place) {
            int bits = 0;
            for (int figure = 0; figure < figures; figure++) {
                if (cell[figure] == place) {
                    bits = bits | (1 << figure);
                }
            }
            return bits;
        }

        int othersWith(int figure) {
            int others = -1;
            for (int other = 0; other < figures; other++) {
                others += cell[other] == cell[figure] ? 1 : 0;
            }
            return others;
        }

        int aloneBits() {
            int bits = 0;
            for (int figure = 0; figure < figures; figure++) {
                if (othersWith(figure) == 0) {
                    bits = bits | (1 << figure);
                }
            }
            return bits;
        }

        int placedAsBits(State other) {
            int bits = 0;
            for (int figure = 0; figure < figures; figure++) {
                if (cell[figure] == other.cell[figure]) {
                    bits = bits | (1 << figure);
                }
            }
            return bits;
        }

        boolean isPlacedAs(State other) {
            return placedAsBits(other) == (1 << figures) - 1;
        }

        long places() {
            long places = 0;
            for (int figure = 0; figure < figures; figure++) {
                places = places | (1L << cell[figure]);
            }
            return places;
        }

        int soreOfAll() {
            int all = 0;
            for (int figure = 0; figure < figures; figure++) {
                all += sore[figure];
            }
            return all;
        }

        int heldBits() {
            int bits = 0;
            for (int figure = 0; figure < figures; figure++) {
                if (held[figure] > 0) {
                    bits = bits | (1 << figure);
                }
            }
            return bits;
        }
    }

    /** The latest ACTS, each as the State ahead of it, and what is NOTED. */
    private static final class Diary {
        private final int[] rows = new int[MOST_ACTS * State.ROW];
        private int next;
        int acts;
        int notes;
        final int[] figure = new int[MOST_NOTES];
        final int[] cell = new int[MOST_NOTES];
        final int[] hours = new int[MOST_NOTES];

        void clearActs() {
            acts = 0;
        }

        void clearNotes() {
            notes = 0;
        }

        void keep(State state) {
            state.saveTo(rows, next * State.ROW);
            next = (next + 1) % MOST_ACTS;
            acts = Math.min(MOST_ACTS, acts + 1);
        }

        void takeBack(State state) {
            if (acts > 0) {
                next = (next + MOST_ACTS - 1) % MOST_ACTS;
                acts--;
                state.loadFrom(rows, next * State.ROW);
            }
        }

        void add(int who, int where, int behind) {
            if (notes < MOST_NOTES) {
                figure[notes] = who;
                cell[notes] = where;
                hours[notes] = behind;
                notes++;
            }
        }

        void copyFrom(Diary other) {
            System.arraycopy(other.rows, 0, rows, 0, MOST_ACTS * State.ROW);
            next = other.next;
            acts = other.acts;
            notes = other.notes;
            System.arraycopy(other.figure, 0, figure, 0, MOST_NOTES);
            System.arraycopy(other.cell, 0, cell, 0, MOST_NOTES);
            System.arraycopy(other.hours, 0, hours, 0, MOST_NOTES);
        }

        boolean agrees(State state, int behind) {
            for (int note = 0; note < notes; note++) {
                if (hours[note] == behind && state.cell[figure[note]] != cell[note]) {
                    return false;
                }
            }
            return true;
        }
    }

    /** Lets HOURS go by. */
    private static final class Mover {
        private final int[] values = new int[VALUES];

        void passHours(Plan plan, State state, int many) {
            for (int i = 0; i < many; i++) {
                passHour(plan, state, plan.isDull(state.hour));
            }
        }

        void passHour(Plan plan, State state, boolean dull) {
            for (int figure = 0; figure < plan.figures; figure++) {
                if (state.held[figure] > 0 && !dull) {
                    hurt(plan, state, figure);
                } else if (wantsToGo(plan, state, figure)) {
                    go(plan, state, figure);
                }
            }
            for (int figure = 0; figure < plan.figures; figure++) {
                state.held[figure] = Math.max(0, state.held[figure] - 1);
            }
            state.hour++;
        }

        private void hurt(Plan plan, State state, int figure) {
            int more = 1;
            if (plan.hurts.isTold()) {
                setValues(plan, state, figure);
                more = Math.max(0, Math.min(MOST_HURT, plan.hurts.value(values)));
            }
            state.sore[figure] = Math.min(MOST_SORE, state.sore[figure] + more);
        }

        private boolean wantsToGo(Plan plan, State state, int figure) {
            if (!plan.goes.isTold()) {
                return state.sore[figure] < SORE_STAYS;
            }
            setValues(plan, state, figure);
            return plan.goes.value(values) > 0;
        }

        private void go(Plan plan, State state, int figure) {
            int to = plan.beside(state.cell[figure], plan.stepOf(figure, state.hour + state.lead[figure]));
            if (to != NONE && !state.isWall(to)) {
                state.cell[figure] = to;
            }
        }

        private void setValues(Plan plan, State state, int figure) {
            values[SORE] = state.sore[figure];
            values[LIGHT] = plan.lightOf(state.hour);
            values[WITH] = state.othersWith(figure);
            values[HOUR] = state.hour;
            values[STEP] = plan.stepOf(figure, state.hour + state.lead[figure]);
            values[HELD] = state.held[figure];
        }
    }

    /** How far it is on the table, and what is seen on it. */
    private static final class Ways {
        final int[] far = new int[MOST_CELLS];
        private final int[] queue = new int[MOST_CELLS];

        // Goes backwards from where the way ends; a WALL may begin a way, but none goes through it.
        void measure(Plan plan, State state, int to) {
            Arrays.fill(far, NONE);
            far[to] = 0;
            queue[0] = to;
            int queued = state.isWall(to) ? 0 : 1;
            for (int i = 0; i < queued && i < MOST_CELLS; i++) {
                int at = queue[i];
                for (int step = 1; step <= 4; step++) {
                    int next = plan.beside(at, step);
                    if (next == NONE || far[next] != NONE) {
                        continue;
                    }
                    far[next] = far[at] + 1;
                    if (!state.isWall(next) && queued < MOST_CELLS) {
                        queue[queued] = next;
                        queued++;
                    }
                }
            }
        }

        int firstStep(Plan plan, State state, int cell) {
            int least = NONE;
            for (int step = 1; step <= 4 && far[cell] > 0; step++) {
                int next = plan.beside(cell, step);
                if (next == NONE || state.isWall(next) || far[next] != far[cell] - 1) {
                    continue;
                }
                if (least == NONE || next < least) {
                    least = next;
                }
            }
            return least;
        }

        int parts(Plan plan, State state) {
            long seen = state.walls;
            int many = 0;
            for (int cell = 0; cell < plan.cells(); cell++) {
                if (((seen >>> cell) & 1L) != 0) {
                    continue;
                }
                many++;
                measure(plan, state, cell);
                for (int other = 0; other < MOST_CELLS; other++) {
                    seen = far[other] == NONE ? seen : seen | (1L << other);
                }
            }
            return many;
        }

        int seenFrom(Plan plan, State state, int cell) {
            int bits = state.figuresAt(cell);
            for (int step = 1; step <= 4; step++) {
                int at = plan.beside(cell, step);
                for (int i = 0; i < MOST_CELLS && at != NONE && !state.isWall(at); i++) {
                    bits = bits | state.figuresAt(at);
                    at = plan.beside(at, step);
                }
            }
            return bits;
        }
    }

    /** Puts FIGURES to SEATS. */
    private static final class Seating {
        private static final int MASKS = 1 << MOST_SEATS;
        // Worth more than all ways together can be far, so that one more at a SEAT counts for more than any way.
        private static final int WORTH = 1000;

        private final int[] farTo = new int[MOST_FIGURES * MOST_SEATS];
        private final int[] best = new int[(MOST_FIGURES + 1) * MASKS];
        final int[] seatOf = new int[MOST_FIGURES];
        int placed;
        int far;

        void place(Plan plan, State state, Ways ways) {
            measureAll(plan, state, ways);
            Arrays.fill(best, 0);
            for (int figure = plan.figures - 1; figure >= 0; figure--) {
                for (int taken = 0; taken < (1 << plan.seats); taken++) {
                    best[figure * MASKS + taken] = bestFrom(plan, figure, taken);
                }
            }
            choose(plan);
        }

        private void measureAll(Plan plan, State state, Ways ways) {
            for (int seat = 0; seat < plan.seats; seat++) {
                ways.measure(plan, state, plan.seatCell[seat]);
                for (int figure = 0; figure < plan.figures; figure++) {
                    farTo[figure * MOST_SEATS + seat] = ways.far[state.cell[figure]];
                }
            }
        }

        private int bestFrom(Plan plan, int figure, int taken) {
            int most = best[(figure + 1) * MASKS + taken];
            for (int seat = 0; seat < plan.seats; seat++) {
                most = Math.max(most, worthAt(figure, taken, seat));
            }
            return most;
        }

        private int worthAt(int figure, int taken, int seat) {
            int ways = farTo[figure * MOST_SEATS + seat];
            if (((taken >> seat) & 1) != 0 || ways == NONE) {
                return NONE;
            }
            return WORTH - ways + best[(figure + 1) * MASKS + (taken | (1 << seat))];
        }

        private void choose(Plan plan) {
            placed = 0;
            far = 0;
            int taken = 0;
            for (int figure = 0; figure < plan.figures; figure++) {
                seatOf[figure] = NONE;
                for (int seat = 0; seat < plan.seats && seatOf[figure] == NONE; seat++) {
                    if (worthAt(figure, taken, seat) == best[figure * MASKS + taken]) {
                        seatOf[figure] = seat;
                        placed++;
                        far += farTo[figure * MOST_SEATS + seat];
                    }
                }
                taken = seatOf[figure] == NONE ? taken : taken | (1 << seatOf[figure]);
            }
        }
    }

    /** The LEADS by which all NOTED would be so. */
    private static final class Guesses {
        private final State trial = new State();
        final long[] places = new long[MOST_FIGURES];
        int many;
        int first;

        void search(Plan plan, State now, Diary diary, Mover mover) {
            many = 0;
            first = NONE;
            Arrays.fill(places, 0L);
            for (int figure = 0; figure < plan.figures; figure++) {
                for (int lead = 0; lead < plan.steps[figure]; lead++) {
                    if (lead == now.lead[figure]) {
                        continue;
                    }
                    trial.copyFrom(now);
                    trial.lead[figure] = lead;
                    if (holdsAll(plan, trial, diary, mover)) {
                        first = many == 0 ? 10 * figure + lead : first;
                        many++;
                        trial.copyFrom(now);
                        trial.lead[figure] = lead;
                        addPlaces(plan, mover);
                    }
                }
            }
        }

        boolean holdsAll(Plan plan, State state, Diary diary, Mover mover) {
            for (int hour = 0; hour <= MOST_NOTED_HOURS; hour++) {
                if (!diary.agrees(state, hour)) {
                    return false;
                }
                mover.passHour(plan, state, plan.isDull(state.hour));
            }
            return true;
        }

        private void addPlaces(Plan plan, Mover mover) {
            mover.passHours(plan, trial, LOOK_HOURS);
            for (int figure = 0; figure < plan.figures; figure++) {
                places[figure] = places[figure] | (1L << trial.cell[figure]);
            }
        }
    }
}

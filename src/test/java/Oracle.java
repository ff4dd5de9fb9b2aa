import java.util.ArrayDeque;
import java.util.ArrayList;
import java.util.Arrays;
import java.util.Comparator;
import java.util.HashMap;
import java.util.HashSet;
import java.util.List;
import java.util.Map;
import java.util.NoSuchElementException;
import java.util.Set;
import java.util.TreeMap;
import java.util.TreeSet;
import java.util.function.Function;
import java.util.regex.Matcher;
import java.util.regex.Pattern;

/** The document a second time, written as differently from TownTable as it goes, to compare answers with. */
final class Oracle {
    static final int NONE = -1;

    /** A FAULT in a TEXT. */
    static final class Fault extends Exception {
        final int number;
        final int place;

        Fault(int number, int place) {
            this.number = number;
            this.place = place;
        }
    }

    record Token(String text, int place) {
        boolean isNumber() {
            return text.matches("[0-9]+");
        }

        boolean isWord() {
            return text.matches("[a-z]+");
        }
    }

    /** What a rule is asked with: the VALUES by name. */
    interface Expr {
        int of(Map<String, Integer> values);
    }

    static final class Town {
        int width = 5;
        int height = 4;
        final Set<Integer> walls = new TreeSet<>();
        final List<Integer> starts = new ArrayList<>();
        final List<List<Integer>> ways = new ArrayList<>();
        final List<Integer> seats = new ArrayList<>();
        List<Integer> light;
        Integer dull;
        Expr goes;
        Expr hurts;
    }

    /** Reads a TEXT by descending through the grammar. */
    static final class Parser {
        private final String text;
        private final List<Token> tokens = new ArrayList<>();
        private int at;
        private final Town town = new Town();
        private Set<String> names;

        Parser(String text) {
            this.text = text;
            Matcher m = Pattern.compile("[a-z]+|[0-9]+|[^ \n]", Pattern.DOTALL).matcher(text);
            while (m.find()) {
                tokens.add(new Token(m.group(), m.start()));
            }
        }

        private Token peek() {
            return at < tokens.size() ? tokens.get(at) : new Token("", text.length());
        }

        private Token take() {
            Token t = peek();
            at++;
            return t;
        }

        private Fault fault(int number) {
            return new Fault(number, peek().place());
        }

        private void expect(String sign) throws Fault {
            if (!peek().text().equals(sign)) {
                throw fault(1);
            }
            take();
        }

        private int number(int least, int most) throws Fault {
            if (!peek().isNumber()) {
                throw fault(1);
            }
            String digits = peek().text();
            if (digits.length() > 4 || Integer.parseInt(digits) < least || Integer.parseInt(digits) > most) {
                throw fault(2);
            }
            return Integer.parseInt(take().text());
        }

        private int place(boolean free) throws Fault {
            if (!peek().isNumber()) {
                throw fault(1);
            }
            if (peek().text().length() > 4) {
                throw fault(2);
            }
            int cell = Integer.parseInt(peek().text());
            if (cell >= town.width * town.height) {
                throw fault(3);
            }
            if (town.walls.contains(cell) || free && (town.starts.contains(cell) || town.seats.contains(cell))) {
                throw fault(4);
            }
            take();
            return cell;
        }

        private List<Integer> row(int most) throws Fault {
            List<Integer> row = new ArrayList<>();
            do {
                if (row.size() == 8 && peek().isNumber()) {
                    throw fault(2);
                }
                row.add(number(0, most));
            } while (peek().isNumber());
            return row;
        }

        Town parse() throws Fault {
            if (peek().text().equals("table")) {
                take();
                town.width = number(2, 6);
                town.height = number(2, 6);
                expect(";");
            }
            while (at < tokens.size()) {
                line();
                expect(";");
            }
            return town;
        }

        private void line() throws Fault {
            switch (peek().text()) {
                case "wall" -> {
                    take();
                    town.walls.add(place(true));
                }
                case "figure" -> {
                    if (town.starts.size() == 8) {
                        throw fault(2);
                    }
                    take();
                    town.starts.add(place(false));
                    town.ways.add(row(4));
                }
                case "seat" -> {
                    if (town.seats.size() == 8) {
                        throw fault(2);
                    }
                    take();
                    town.seats.add(place(false));
                }
                case "light" -> {
                    once(town.light);
                    town.light = row(9);
                }
                case "dull" -> {
                    once(town.dull);
                    town.dull = number(0, 9);
                }
                case "goes" -> {
                    once(town.goes);
                    names = Set.of("sore", "light", "with", "hour", "step");
                    town.goes = or(0);
                }
                case "hurts" -> {
                    once(town.hurts);
                    names = Set.of("sore", "light", "with", "hour", "held");
                    town.hurts = or(0);
                }
                default -> throw fault(1);
            }
        }

        private void once(Object told) throws Fault {
            if (told != null) {
                throw fault(5);
            }
            take();
        }

        private Expr or(int depth) throws Fault {
            if (depth == 6 && (peek().isNumber() || peek().isWord() || peek().text().equals("("))) {
                throw fault(2);
            }
            Expr all = and(depth);
            while (peek().text().equals("or")) {
                take();
                Expr left = all;
                Expr right = and(depth);
                all = v -> left.of(v) != 0 | right.of(v) != 0 ? 1 : 0;
            }
            return all;
        }

        private Expr and(int depth) throws Fault {
            Expr all = not(depth, 0);
            while (peek().text().equals("and")) {
                take();
                Expr left = all;
                Expr right = not(depth, 0);
                all = v -> left.of(v) != 0 & right.of(v) != 0 ? 1 : 0;
            }
            return all;
        }

        private Expr not(int depth, int nots) throws Fault {
            if (peek().text().equals("not")) {
                if (nots == 6) {
                    throw fault(2);
                }
                take();
                Expr inner = not(depth, nots + 1);
                return v -> inner.of(v) == 0 ? 1 : 0;
            }
            Expr left = sum(depth);
            String sign = peek().text();
            if (!sign.equals("<") && !sign.equals("=")) {
                return left;
            }
            take();
            Expr right = sum(depth);
            return sign.equals("<")
                    ? v -> left.of(v) < right.of(v) ? 1 : 0
                    : v -> left.of(v) == right.of(v) ? 1 : 0;
        }

        private Expr sum(int depth) throws Fault {
            Expr all = product(depth);
            while (peek().text().equals("+") || peek().text().equals("-")) {
                int by = take().text().equals("+") ? 1 : -1;
                Expr left = all;
                Expr right = product(depth);
                all = v -> left.of(v) + by * right.of(v);
            }
            return all;
        }

        private Expr product(int depth) throws Fault {
            Expr all = part(depth);
            while (peek().text().equals("*") || peek().text().equals("/")) {
                boolean times = take().text().equals("*");
                Expr left = all;
                Expr right = part(depth);
                all = times ? v -> left.of(v) * right.of(v)
                        : v -> right.of(v) == 0 ? 0 : (int) ((long) left.of(v) / right.of(v));
            }
            return all;
        }

        private Expr part(int depth) throws Fault {
            if (peek().isNumber()) {
                int told = number(0, 9999);
                return v -> told;
            }
            if (peek().isWord()) {
                String name = peek().text();
                if (!names.contains(name)) {
                    throw fault(3);
                }
                take();
                return v -> v.get(name);
            }
            expect("(");
            Expr inner = or(depth + 1);
            expect(")");
            return inner;
        }
    }

    static final class One implements Cloneable {
        int cell;
        int sore;
        int held;
        int lead;

        One copy() {
            One o = new One();
            o.cell = cell;
            o.sore = sore;
            o.held = held;
            o.lead = lead;
            return o;
        }
    }

    static final class World {
        int hour;
        int pence;
        Set<Integer> walls = new TreeSet<>();
        List<One> all = new ArrayList<>();

        World copy() {
            World w = new World();
            w.hour = hour;
            w.pence = pence;
            w.walls = new TreeSet<>(walls);
            for (One o : all) {
                w.all.add(o.copy());
            }
            return w;
        }

        int with(int f) {
            return (int) all.stream().filter(o -> o.cell == all.get(f).cell).count() - 1;
        }
    }

    record Note(int figure, int cell, int hours) { }

    record Image(World world, List<World> acts, List<Note> notes) { }

    private String tape = "";
    private Town town = new Town();
    private World now = new World();
    private ArrayDeque<World> acts = new ArrayDeque<>();
    private List<Note> notes = new ArrayList<>();
    private Image image;
    private int faultPlace = NONE;
    private final int[] refused = new int[3];

    public int feed(int a, int b, int c, int d, int e) {
        if (tape.length() > 680) {
            return NONE;
        }
        StringBuilder more = new StringBuilder(tape);
        for (int four : new int[] {a, b, c, d, e}) {
            for (byte one : java.nio.ByteBuffer.allocate(4).putInt(four).array()) {
                more.append((char) (one & 0xff));
            }
        }
        tape = more.toString();
        return tape.length();
    }

    public int town(int n) {
        if (n < 0 || n > tape.length()) {
            throw new IllegalArgumentException();
        }
        String text = tape.substring(0, n);
        tape = "";
        try {
            town = new Parser(text).parse();
        } catch (Fault f) {
            faultPlace = f.place;
            refused[0]++;
            return f.number;
        }
        faultPlace = NONE;
        now = new World();
        now.walls.addAll(town.walls);
        for (int cell : town.starts) {
            One o = new One();
            o.cell = cell;
            now.all.add(o);
        }
        acts.clear();
        notes.clear();
        image = null;
        return 0;
    }

    public int fault() {
        return faultPlace;
    }

    private int light(int hour) {
        return town.light == null ? 5 : town.light.get(hour % town.light.size());
    }

    private boolean dull(int hour) {
        return light(hour) < (town.dull == null ? 3 : town.dull);
    }

    private int step(World w, int f) {
        List<Integer> way = town.ways.get(f);
        return way.get((w.hour + w.all.get(f).lead) % way.size());
    }

    private void hour(World w, boolean dull) {
        for (int f = 0; f < w.all.size(); f++) {
            One o = w.all.get(f);
            Map<String, Integer> v = new HashMap<>();
            v.put("sore", o.sore);
            v.put("light", light(w.hour));
            v.put("with", w.with(f));
            v.put("hour", w.hour);
            v.put("step", step(w, f));
            v.put("held", o.held);
            if (o.held > 0 && !dull) {
                int more = town.hurts == null ? 1 : town.hurts.of(v);
                o.sore = Math.min(99, o.sore + (more < 0 ? 0 : more > 9 ? 9 : more));
            } else if (town.goes == null ? o.sore < 10 : town.goes.of(v) > 0) {
                int x = o.cell % town.width + new int[] {0, 0, 1, 0, -1}[step(w, f)];
                int y = o.cell / town.width + new int[] {0, -1, 0, 1, 0}[step(w, f)];
                if (x >= 0 && x < town.width && y >= 0 && y < town.height && !w.walls.contains(y * town.width + x)) {
                    o.cell = y * town.width + x;
                }
            }
        }
        for (One o : w.all) {
            o.held -= o.held > 0 ? 1 : 0;
        }
        w.hour++;
    }

    /** The worlds of now and behind each of so many HOURS. */
    private List<World> film(World from, int hours) {
        List<World> film = new ArrayList<>();
        World w = from.copy();
        film.add(w);
        for (int i = 0; i < hours; i++) {
            w = w.copy();
            hour(w, dull(w.hour));
            film.add(w);
        }
        return film;
    }

    private void needFigure(int f) {
        need(f >= 0 && f < now.all.size());
    }

    private void needCell(int c) {
        need(c >= 0 && c < town.width * town.height);
    }

    private static void need(boolean is) {
        if (!is) {
            throw new NoSuchElementException();
        }
    }

    private static void range(int n, int least, int most) {
        if (n < least || n > most) {
            throw new IllegalArgumentException();
        }
    }

    private static int bits(int many, Function<Integer, Boolean> is) {
        int bits = 0;
        for (int i = 0; i < many; i++) {
            bits += is.apply(i) ? 1 << i : 0;
        }
        return bits;
    }

    public int count(int what) {
        need(what >= 0 && what <= 17);
        return switch (what) {
            case 0 -> now.all.size();
            case 1 -> town.seats.size();
            case 2 -> town.width;
            case 3 -> town.height;
            case 4 -> now.hour;
            case 5 -> light(now.hour);
            case 6 -> dull(now.hour) ? 1 : 0;
            case 7 -> now.pence;
            case 8 -> now.walls.size();
            case 9 -> parts();
            case 10 -> now.all.stream().mapToInt(o -> o.sore).sum();
            case 11 -> bits(now.all.size(), f -> now.all.get(f).held > 0);
            case 12 -> acts.size();
            case 13 -> notes.size();
            case 14 -> tape.length();
            default -> refused[what - 15];
        };
    }

    private int[][] distances() {
        int n = town.width * town.height;
        int[][] far = new int[n][n];
        for (int a = 0; a < n; a++) {
            for (int b = 0; b < n; b++) {
                int dx = Math.abs(a % town.width - b % town.width);
                int dy = Math.abs(a / town.width - b / town.width);
                far[a][b] = a == b ? 0 : dx + dy == 1 && !now.walls.contains(b) ? 1 : 1000;
            }
        }
        for (int k = 0; k < n; k++) {
            for (int a = 0; a < n; a++) {
                for (int b = 0; b < n; b++) {
                    far[a][b] = Math.min(far[a][b], far[a][k] + far[k][b]);
                }
            }
        }
        return far;
    }

    private int parts() {
        int[][] far = distances();
        Set<Integer> firsts = new HashSet<>();
        for (int a = 0; a < far.length; a++) {
            if (!now.walls.contains(a)) {
                int first = a;
                for (int b = a; b >= 0; b--) {
                    if (!now.walls.contains(b) && far[a][b] < 1000) {
                        first = b;
                    }
                }
                firsts.add(first);
            }
        }
        return firsts.size();
    }

    public int figure(int figure, int what) {
        needFigure(figure);
        need(what >= 0 && what <= 6);
        One o = now.all.get(figure);
        return new int[] {o.cell, town.ways.get(figure).size(), o.sore, o.held, step(now, figure), o.lead,
            now.with(figure)}[what];
    }

    private boolean sees(int from, int to) {
        int ax = from % town.width;
        int ay = from / town.width;
        int bx = to % town.width;
        int by = to / town.width;
        if (ax != bx && ay != by) {
            return false;
        }
        for (int wall : now.walls) {
            int x = wall % town.width;
            int y = wall / town.width;
            boolean across = ay == by && y == ay && (x - ax) * (x - bx) < 0;
            boolean down = ax == bx && x == ax && (y - ay) * (y - by) < 0;
            if (across || down) {
                return false;
            }
        }
        return true;
    }

    public int cell(int cell, int what) {
        needCell(cell);
        need(what >= 0 && what <= 3);
        return switch (what) {
            case 0 -> now.walls.contains(cell) ? 1 : 0;
            case 1 -> bits(now.all.size(), f -> now.all.get(f).cell == cell);
            case 2 -> bits(town.seats.size(), s -> town.seats.get(s) == cell);
            default -> bits(now.all.size(), f -> sees(cell, now.all.get(f).cell));
        };
    }

    private int refuse() {
        refused[1]++;
        return NONE;
    }

    private void act() {
        acts.addLast(now.copy());
        if (acts.size() > 40) {
            acts.removeFirst();
        }
    }

    public int hours(int many) {
        if (many < 1 || many > 20 || now.hour > 9999 - many) {
            return refuse();
        }
        act();
        now = film(now, many).get(many);
        return now.hour;
    }

    public int stop(int figure, int hours) {
        needFigure(figure);
        if (dull(now.hour) || hours < 1 || hours > 9) {
            return refuse();
        }
        act();
        now.all.get(figure).held = hours;
        now.pence = Math.min(9999, now.pence + 1);
        return now.pence;
    }

    public int lift(int figure, int cell) {
        needFigure(figure);
        needCell(cell);
        One o = now.all.get(figure);
        if (dull(now.hour) || o.cell == cell || now.walls.contains(cell)) {
            return refuse();
        }
        act();
        int was = o.cell;
        o.cell = cell;
        o.held = 0;
        now.pence = Math.min(9999, now.pence + 3);
        return was;
    }

    public int brush(int figure) {
        needFigure(figure);
        int was = now.all.get(figure).sore;
        if (was == 0) {
            return refuse();
        }
        act();
        now.all.get(figure).sore = 0;
        return was;
    }

    public boolean wall(int cell, boolean is) {
        needCell(cell);
        boolean taken = town.seats.contains(cell) || now.all.stream().anyMatch(o -> o.cell == cell);
        if (is ? now.walls.contains(cell) || taken : !now.walls.contains(cell)) {
            refuse();
            return false;
        }
        act();
        if (is) {
            now.walls.add(cell);
        } else {
            now.walls.remove(cell);
        }
        return true;
    }

    public int undo() {
        if (acts.isEmpty()) {
            return NONE;
        }
        now = acts.removeLast();
        return acts.size();
    }

    public int then(int figure, int hours, int what) {
        needFigure(figure);
        need(what >= 0 && what <= 2);
        range(hours, 0, 100);
        One o = film(now, hours).get(hours).all.get(figure);
        return new int[] {o.cell, o.sore, o.held}[what];
    }

    public int comes(int figure, int cell) {
        needFigure(figure);
        needCell(cell);
        List<World> film = film(now, 100);
        for (int h = 0; h < film.size(); h++) {
            if (film.get(h).all.get(figure).cell == cell) {
                return h;
            }
        }
        return NONE;
    }

    public int meet(int figure, int other) {
        needFigure(figure);
        needFigure(other);
        List<World> film = film(now, 100);
        for (int h = 0; h < film.size() && figure != other; h++) {
            if (film.get(h).all.get(figure).cell == film.get(h).all.get(other).cell) {
                return h;
            }
        }
        return NONE;
    }

    private static Map<Integer, Integer> tally(World w) {
        Map<Integer, Integer> tally = new TreeMap<>();
        for (One o : w.all) {
            tally.merge(o.cell, 1, Integer::sum);
        }
        return tally;
    }

    private static Map.Entry<Integer, Integer> top(Map<Integer, Integer> tally) {
        return tally.entrySet().stream()
                .min(Comparator.comparing((Map.Entry<Integer, Integer> e) -> -e.getValue())
                        .thenComparing(Map.Entry::getKey))
                .orElse(Map.entry(NONE, 0));
    }

    public int crowd(int hours, int what) {
        need(what == 0 || what == 1);
        range(hours, 0, 100);
        Map.Entry<Integer, Integer> top = top(tally(film(now, hours).get(hours)));
        return what == 0 ? top.getValue() : top.getKey();
    }

    private static List<Integer> cells(World w) {
        return w.all.stream().map(o -> o.cell).toList();
    }

    public int round() {
        List<World> film = film(now, 200);
        for (int h = 1; h <= 200; h++) {
            if (cells(film.get(h)).equals(cells(now))) {
                return h;
            }
        }
        return NONE;
    }

    public int spread(int figure, int hours) {
        needFigure(figure);
        range(hours, 0, 100);
        return (int) film(now, hours).stream().map(w -> w.all.get(figure).cell).distinct().count();
    }

    public int way(int cell, int to, int what) {
        needCell(cell);
        needCell(to);
        need(what == 0 || what == 1);
        int[][] far = distances();
        if (far[cell][to] >= 1000) {
            return NONE;
        }
        if (what == 0) {
            return far[cell][to];
        }
        for (int c = 0; c < far.length && cell != to; c++) {
            if (far[cell][c] == 1 && far[c][to] == far[cell][to] - 1) {
                return c;
            }
        }
        return NONE;
    }

    public int toStop(int figure, int cell, int hours) {
        needFigure(figure);
        needCell(cell);
        range(hours, 0, 100);
        for (int held = 0; held <= 9; held++) {
            World w = now.copy();
            w.all.get(figure).held = held;
            if (film(w, hours).get(hours).all.get(figure).cell == cell) {
                return held;
            }
        }
        return NONE;
    }

    public int toThin(int hours) {
        range(hours, 0, 60);
        List<World> film = film(now, hours);
        int best = NONE;
        for (int taken = 0; taken < 1 << now.all.size(); taken++) {
            boolean fine = true;
            for (World w : film) {
                Set<Integer> seen = new HashSet<>();
                for (int f = 0; f < w.all.size(); f++) {
                    fine &= (taken >> f & 1) == 1 || seen.add(w.all.get(f).cell);
                }
            }
            if (fine && (best == NONE || Integer.bitCount(taken) < Integer.bitCount(best))) {
                best = taken;
            }
        }
        return best;
    }

    private int[] bestRow;
    private int bestMany;
    private int bestFar;

    private void seatAll(int[][] far, int[] row, int f, int many, int all) {
        if (f == row.length) {
            boolean better = many > bestMany || many == bestMany && all < bestFar
                    || many == bestMany && all == bestFar && rowBefore(row, bestRow);
            if (bestRow == null || better) {
                bestRow = row.clone();
                bestMany = many;
                bestFar = all;
            }
            return;
        }
        for (int s = 0; s < town.seats.size(); s++) {
            int seat = s;
            boolean free = Arrays.stream(row, 0, f).noneMatch(x -> x == seat);
            int d = far[now.all.get(f).cell][town.seats.get(s)];
            if (free && d < 1000) {
                row[f] = s;
                seatAll(far, row, f + 1, many + 1, all + d);
            }
        }
        row[f] = 99;
        seatAll(far, row, f + 1, many, all);
    }

    private static boolean rowBefore(int[] a, int[] b) {
        return Arrays.compare(a, b) < 0;
    }

    private void seatAll() {
        bestRow = null;
        seatAll(distances(), new int[now.all.size()], 0, 0, 0);
    }

    public int seats(int what) {
        need(what == 0 || what == 1);
        seatAll();
        return what == 0 ? bestMany : bestFar;
    }

    public int seat(int figure) {
        needFigure(figure);
        seatAll();
        return bestRow[figure] == 99 ? NONE : bestRow[figure];
    }

    public int note(int figure, int cell, int hours) {
        needFigure(figure);
        needCell(cell);
        if (notes.size() == 8 || hours < 0 || hours > 20) {
            refused[2]++;
            return NONE;
        }
        notes.add(new Note(figure, cell, hours));
        return notes.size();
    }

    public void forget() {
        notes.clear();
    }

    private boolean allNoted(World w) {
        List<World> film = film(w, 20);
        return notes.stream().allMatch(n -> film.get(n.hours()).all.get(n.figure()).cell == n.cell());
    }

    private Map<Integer, World> guesses() {
        Map<Integer, World> guesses = new TreeMap<>();
        for (int f = 0; f < now.all.size(); f++) {
            for (int lead = 1; lead < town.ways.get(f).size(); lead++) {
                World w = now.copy();
                w.all.get(f).lead = lead;
                if (allNoted(w)) {
                    guesses.put(10 * f + lead, w);
                }
            }
        }
        return guesses;
    }

    public int ahead(int what) {
        need(what >= 0 && what <= 2);
        List<Integer> guesses = new ArrayList<>(guesses().keySet());
        if (what == 2) {
            return allNoted(now) ? 1 : 0;
        }
        return what == 0 ? guesses.size() : guesses.isEmpty() ? NONE : guesses.get(0);
    }

    public int look(int what) {
        need(what == 0 || what == 1);
        Map<Integer, Integer> unlike = new TreeMap<>();
        Map<Integer, World> guesses = guesses();
        for (int f = 0; f < now.all.size() && !guesses.isEmpty(); f++) {
            int figure = f;
            unlike.put(f, (int) guesses.values().stream()
                    .map(w -> film(w, 5).get(5).all.get(figure).cell).distinct().count());
        }
        Map.Entry<Integer, Integer> top = top(unlike);
        return what == 0 ? top.getKey() : top.getValue();
    }

    private int cloudy(World w, int figure, int cell, int hours, int tenths) {
        if (hours == 0) {
            return w.all.get(figure).cell == cell ? 1 : 0;
        }
        World dull = w.copy();
        World clear = w.copy();
        hour(dull, true);
        hour(clear, false);
        return tenths * cloudy(dull, figure, cell, hours - 1, tenths)
                + (10 - tenths) * cloudy(clear, figure, cell, hours - 1, tenths);
    }

    public int clouds(int figure, int cell, int hours, int tenths) {
        needFigure(figure);
        needCell(cell);
        range(hours, 1, 5);
        range(tenths, 0, 10);
        return cloudy(now, figure, cell, hours, tenths);
    }

    private int gain(int figure, int other, int a, int b, int of) {
        World w = now.copy();
        if (a == 1) {
            w.all.get(figure).held = 3;
        }
        if (b == 1) {
            w.all.get(other).held = 3;
        }
        List<World> film = film(w, 8);
        int gain = (int) film.stream().skip(1).filter(x -> x.with(of) > 0).count() * 2;
        return gain - film.get(8).all.get(of).sore / 2;
    }

    public int game(int figure, int other, int what) {
        needFigure(figure);
        needFigure(other);
        need(what == 0 || what == 1);
        if (figure == other) {
            throw new IllegalArgumentException();
        }
        List<Integer> rests = new ArrayList<>();
        for (int a = 0; a <= 1; a++) {
            for (int b = 0; b <= 1; b++) {
                boolean one = gain(figure, other, 1 - a, b, figure) <= gain(figure, other, a, b, figure);
                boolean two = gain(figure, other, a, 1 - b, other) <= gain(figure, other, a, b, other);
                if (one && two) {
                    rests.add(10 * a + b);
                }
            }
        }
        return what == 0 ? rests.size() : rests.isEmpty() ? NONE : rests.get(0);
    }

    private int drawn;

    private int draw(int n) {
        drawn = (int) (drawn * 1103515245L + 12345L);
        return (drawn >> 16 & 0x7fff) % n;
    }

    public int years(int seed, int n, int what) {
        need(what >= 0 && what <= 2);
        range(n, 0, 100);
        drawn = seed;
        World w = now.copy();
        int crowded = 0;
        for (int h = 0; h < n; h++) {
            int fate = draw(6);
            if (fate < 3 && !w.all.isEmpty()) {
                One o = w.all.get(draw(w.all.size()));
                if (fate == 0) {
                    o.held = draw(4);
                } else if (fate == 2) {
                    o.sore = 0;
                } else {
                    int cell = draw(town.width * town.height);
                    if (!w.walls.contains(cell)) {
                        o.cell = cell;
                        o.held = 0;
                    }
                }
            }
            hour(w, dull(w.hour));
            crowded += top(tally(w)).getValue() > 1 ? 1 : 0;
        }
        return what == 0 ? crowded : what == 1 ? w.all.stream().mapToInt(o -> o.sore).sum() : tally(w).size();
    }

    public int later(int hours, int what) {
        need(what >= 0 && what <= 3);
        range(hours, what == 0 ? 1 : 0, 100);
        List<World> film = film(now, hours);
        int many = now.all.size();
        if (what == 0) {
            Map<Integer, Integer> all = new TreeMap<>();
            film.stream().skip(1).forEach(w -> tally(w).forEach((c, n) -> all.merge(c, n, Integer::sum)));
            return top(all).getKey();
        }
        if (what == 1) {
            Map<Integer, Integer> sore = new TreeMap<>();
            for (int f = 0; f < many; f++) {
                if (film.get(hours).all.get(f).sore > 0) {
                    sore.put(f, film.get(hours).all.get(f).sore);
                }
            }
            return top(sore).getKey();
        }
        return what == 2 ? bits(many, f -> film.stream().allMatch(w -> w.with(f) == 0))
                : bits(many, f -> film.stream().allMatch(w -> w.all.get(f).cell == now.all.get(f).cell));
    }

    public int together(int figure, int other, int hours) {
        needFigure(figure);
        needFigure(other);
        range(hours, 1, 100);
        return (int) film(now, hours).stream().skip(1)
                .filter(w -> w.all.get(figure).cell == w.all.get(other).cell).count();
    }

    public int quiet(int cell, int hours) {
        needCell(cell);
        range(hours, 1, 100);
        return (int) film(now, hours).stream().skip(1).filter(w -> !cells(w).contains(cell)).count();
    }

    public int gone(int figure, int hours) {
        needFigure(figure);
        range(hours, 0, 100);
        List<World> film = film(now, hours);
        int many = 0;
        for (int h = 1; h <= hours; h++) {
            many += film.get(h).all.get(figure).cell != film.get(h - 1).all.get(figure).cell ? 1 : 0;
        }
        return many;
    }

    public void image() {
        image = new Image(now.copy(), acts.stream().map(World::copy).toList(), List.copyOf(notes));
    }

    public boolean restore() {
        if (image == null) {
            return false;
        }
        now = image.world().copy();
        acts = new ArrayDeque<>(image.acts().stream().map(World::copy).toList());
        notes = new ArrayList<>(image.notes());
        return true;
    }
}

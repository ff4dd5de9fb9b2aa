import java.lang.reflect.InvocationTargetException;
import java.lang.reflect.Method;
import java.util.ArrayList;
import java.util.Arrays;
import java.util.HashMap;
import java.util.List;
import java.util.Map;
import java.util.TreeSet;

/**
 * Every call of the face with each of its arguments below, at, within, at the end of and beyond its range, in towns
 * that are new, empty, full, dull, walled up or used: TownTable answers, throws and is left as Oracle is.
 */
public final class CallsTest {
    private static final int CALLS_AN_OBJECT = 120;

    /** A call's name, and the ranges of its arguments; F and C stand for the last figure and the last cell. */
    private static final String[] CALLS = {
        "count 0..17", "figure 0..F 0..6", "cell 0..C 0..3", "hours 1..20", "stop 0..F 1..9", "lift 0..F 0..C",
        "brush 0..F", "wall 0..C flag", "undo", "then 0..F 0..100 0..2", "comes 0..F 0..C", "meet 0..F 0..F",
        "crowd 0..100 0..1", "round", "spread 0..F 0..100", "way 0..C 0..C 0..1", "toStop 0..F 0..C 0..100",
        "toThin 0..60", "seats 0..1", "seat 0..F", "note 0..F 0..C 0..20", "forget", "ahead 0..2", "look 0..1",
        "clouds 0..F 0..C 1..5 0..10", "game 0..F 0..F 0..1", "years 0..9 0..100 0..2", "later 0..100 0..3",
        "together 0..F 0..F 1..100", "quiet 0..C 1..100", "gone 0..F 0..100", "image", "restore", "fault", "town 0..40",
        "feed 0..9 0..9 0..9 0..9 0..9"};

    /** A text, and the calls that are made in its town ahead of those that are looked at. */
    private static final String[][] TOWNS = {
        {null},
        {""},
        {Edge.TOWN},
        {Edge.TOWN, "stop 0 3", "stop 2 9", "hours 2", "note 0 2 1", "image", "wall 1 1", "note 2 8 20", "undo"},
        {"table 2 2;figure 0 2 3 4 1;light 0;", "hours 3", "image"},
        {"table 2 2;wall 0;wall 1;wall 2;wall 3;"},
        {"table 6 6;wall 7;wall 8;wall 13;figure 35 1 4 1 4 2 3 2 3;figure 0 2 3;figure 0 3 2;figure 6 0 2 2;"
            + "figure 35 0;figure 34 2 4;figure 1 4;figure 30 1 1 2 2 3 3 4 4;seat 35;seat 0;seat 5;seat 30;seat 6;"
            + "seat 0;seat 14;seat 20;light 9 1 5 2;goes with<2 and not sore=7 or hour/3*3=hour;hurts held+with;",
            "stop 0 9", "stop 3 4", "hours 7", "note 1 20 3", "lift 5 2", "image"},
        {"table 2 6;figure 0 3;figure 11 1;seat 5;goes 1-sore/2;hurts 9;dull 9;light 9 8;", "stop 0 9", "hours 4",
            "stop 1 1", "hours 1"}};

    private final TownTable table = new TownTable();
    private final Oracle oracle = new Oracle();

    private CallsTest(String[] town) {
        if (town[0] != null) {
            String text = town[0];
            for (int from = 0; from < text.length(); from += 20) {
                Object[] five = new Object[5];
                for (int i = 0; i < 20; i++) {
                    int four = i % 4 == 0 ? 0 : (Integer) five[i / 4];
                    five[i / 4] = four << 8 | (from + i < text.length() ? text.charAt(from + i) : ' ');
                }
                both("feed", five);
            }
            both("town", text.length());
        }
        for (int i = 1; i < town.length; i++) {
            String[] words = town[i].split(" ");
            Object[] args = new Object[words.length - 1];
            for (int a = 0; a < args.length; a++) {
                int number = Integer.parseInt(words[a + 1]);
                args[a] = words[0].equals("wall") && a == 1 ? (Object) (number == 1) : (Object) number;
            }
            both(words[0], args);
        }
    }

    private static final Map<String, Method> REAL = methods(TownTable.class);
    private static final Map<String, Method> MODEL = methods(Oracle.class);

    private static Map<String, Method> methods(Class<?> of) {
        Map<String, Method> all = new HashMap<>();
        for (Method m : of.getDeclaredMethods()) {
            if (java.lang.reflect.Modifier.isPublic(m.getModifiers())) {
                m.setAccessible(true);
                all.put(m.getName(), m);
            }
        }
        return all;
    }

    private static String answer(Method m, Object on, Object[] args) {
        try {
            return String.valueOf(m.invoke(on, args));
        } catch (InvocationTargetException e) {
            return "throws " + e.getCause().getClass().getName();
        } catch (IllegalAccessException e) {
            throw new IllegalStateException(e);
        }
    }

    private void both(String name, Object... args) {
        String got = answer(REAL.get(name), table, args);
        String want = answer(MODEL.get(name), oracle, args);
        Check.is(name + Arrays.toString(args) + " answered " + got + ", due is " + want, got.equals(want), true);
    }

    /** Asks for all that can be seen of both, one answer a row, and the acts that can be undone at the end. */
    private void everyState() {
        for (int what = 0; what <= 17; what++) {
            both("count", what);
        }
        for (int f = 0; f < oracle.count(0); f++) {
            for (int what = 0; what <= 6; what++) {
                both("figure", f, what);
            }
        }
        for (int c = 0; c < oracle.count(2) * oracle.count(3); c++) {
            both("cell", c, 0);
            both("cell", c, 1);
        }
        both("ahead", 2);
        both("undo");
        both("count", 4);
        both("restore");
        both("count", 4);
        both("count", 13);
    }

    private static Object[] valuesOf(String range, int lastFigure, int lastCell) {
        if (range.equals("flag")) {
            return new Object[] {false, true};
        }
        String[] ends = range.split("\\.\\.");
        int least = Integer.parseInt(ends[0]);
        int most = ends[1].equals("F") ? lastFigure : ends[1].equals("C") ? lastCell : Integer.parseInt(ends[1]);
        TreeSet<Object> all = new TreeSet<>(List.of(Integer.MIN_VALUE, least - 1, Integer.MAX_VALUE));
        all.addAll(Arrays.asList(least, most, most + 1, least + (most - least) / 2));
        if (most - least <= 6) {
            for (int i = least; i <= most; i++) {
                all.add(i);
            }
        }
        return all.toArray();
    }

    private static List<Object[]> product(String[] spec, int lastFigure, int lastCell) {
        List<Object[]> rows = new ArrayList<>();
        rows.add(new Object[0]);
        for (int i = 1; i < spec.length; i++) {
            List<Object[]> longer = new ArrayList<>();
            for (Object[] row : rows) {
                for (Object value : valuesOf(spec[i], lastFigure, lastCell)) {
                    Object[] next = Arrays.copyOf(row, row.length + 1);
                    next[row.length] = value;
                    longer.add(next);
                }
            }
            rows = longer;
        }
        return rows;
    }

    /** Objects are changed before their 512th call: what they answer behind it is free. */
    private static void callInTown(String call, String[] town) {
        String[] spec = call.split(" ");
        CallsTest t = new CallsTest(town);
        int cells = t.oracle.count(2) * t.oracle.count(3);
        List<Object[]> rows = product(spec, t.oracle.count(0) - 1, cells - 1);
        boolean five = spec[0].equals("feed");
        for (int i = 0; i < rows.size(); i += five ? 97 : 1) {
            if (i % CALLS_AN_OBJECT == 0 && i > 0) {
                t.everyState();
                t = new CallsTest(town);
            }
            t.both(spec[0], rows.get(i));
        }
        t.everyState();
    }

    /** Acts and notes change what comes behind them: each once, in a town of its own. */
    private static void callOnce(String call, String[] town) {
        String[] spec = call.split(" ");
        Oracle of = new CallsTest(town).oracle;
        for (Object[] row : product(spec, of.count(0) - 1, of.count(2) * of.count(3) - 1)) {
            CallsTest t = new CallsTest(town);
            t.both(spec[0], row);
            t.everyState();
        }
    }

    public static void main(String[] args) {
        List<String> named = new ArrayList<>();
        List<String> acts = List.of("hours", "stop", "lift", "brush", "wall", "undo", "note", "town", "restore");
        for (String call : CALLS) {
            String name = call.split(" ")[0];
            named.add(name);
            for (String[] town : TOWNS) {
                callInTown(call, town);
                if (acts.contains(name)) {
                    callOnce(call, town);
                }
            }
        }
        Check.is("all calls of the face", named.containsAll(REAL.keySet()), true);
        Check.end("CallsTest");
    }
}

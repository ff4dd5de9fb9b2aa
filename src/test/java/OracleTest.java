import java.lang.reflect.InvocationTargetException;
import java.lang.reflect.Method;
import java.util.ArrayList;
import java.util.Arrays;
import java.util.HashMap;
import java.util.List;
import java.util.Map;
import java.util.Random;

/** Long runs of drawn calls, each answered by TownTable and by Oracle; the draws are the same each time. */
public final class OracleTest {
    private static final String[] WORDS = {"table", "wall", "figure", "seat", "light", "dull", "goes", "hurts",
        "sore", "with", "hour", "step", "held", "not", "and", "or", "x", ";", "(", ")", "+", "-", "*", "/", "<", "=",
        "0", "1", "5", "9", "10", "36", "9999", "12345", "00001", "99999999999999", "00000", "\t", "A", "\u00e9", "!",
        "\0", "\r", "\u00ff"};
    private static final String[] ACTS = {"hours", "stop", "lift", "brush", "wall", "undo", "image", "restore",
        "note", "forget"};
    private static final String[] ASKS = {"count", "figure", "cell", "then", "comes", "meet", "crowd", "round",
        "spread", "way", "toStop", "toThin", "seats", "seat", "ahead", "look", "clouds", "game", "years", "later",
        "together", "quiet", "gone", "fault"};

    private final Random random;
    private final TownTable table = new TownTable();
    private final Oracle oracle = new Oracle();
    private final List<String> log = new ArrayList<>();
    private static final Map<String, Method> REAL = methods(TownTable.class);
    private static final Map<String, Method> MODEL = methods(Oracle.class);

    private OracleTest(int seed) {
        random = new Random(seed);
    }

    private static Map<String, Method> methods(Class<?> of) {
        Map<String, Method> all = new HashMap<>();
        for (Method m : of.getDeclaredMethods()) {
            if (java.lang.reflect.Modifier.isPublic(m.getModifiers())) {
                m.setAccessible(true);
                all.put(m.getName(), m);
            }
        }
        return all;
    }

    private int draw(int n) {
        return random.nextInt(n);
    }

    private int near(int least, int most) {
        int k = draw(24);
        if (k == 0) {
            return least - 1;
        }
        if (k == 1) {
            return most + 1;
        }
        if (k == 2) {
            return random.nextInt();
        }
        return k < 6 ? (k == 3 ? least : most) : least + draw(Math.max(1, most - least + 1));
    }

    private static String answer(Method m, Object on, Object[] args) {
        try {
            return String.valueOf(m.invoke(on, args));
        } catch (InvocationTargetException e) {
            return "throws " + e.getCause().getClass().getName();
        } catch (IllegalAccessException e) {
            throw new IllegalStateException(e);
        }
    }

    private String both(String name, Object... args) {
        String got = answer(REAL.get(name), table, args);
        String want = answer(MODEL.get(name), oracle, args);
        log.add(name + Arrays.toString(args) + " " + got);
        if (!got.equals(want)) {
            log.subList(Math.max(0, log.size() - 12), log.size()).forEach(System.out::println);
        }
        Check.is("drawn run, " + name + Arrays.toString(args) + " answered " + got + " for " + want,
                got.equals(want), true);
        return got;
    }

    private String expr(int depth, boolean hurts) {
        StringBuilder s = new StringBuilder();
        for (int i = draw(10) < 8 ? 0 : draw(7); i > 0; i--) {
            s.append("not ");
        }
        int parts = 1 + draw(3);
        boolean tested = false;
        for (int i = 0; i < parts; i++) {
            s.append(part(depth, hurts));
            if (i + 1 < parts) {
                int k = draw(tested ? 8 : 10);
                s.append(new String[] {" or ", " and ", " + ", " - ", "*", "/", " and ", "-", "<", "="}[k]);
                tested = k >= 8 || tested && k != 0 && k != 1 && k != 6;
                if ((k == 0 || k == 1 || k == 6) && draw(4) == 0) {
                    s.append("not ");
                }
            }
        }
        return s.toString();
    }

    private String part(int depth, boolean hurts) {
        int k = draw(depth > 5 ? 6 : 8);
        if (k < 3) {
            return "" + (draw(4) == 0 ? draw(10000) : draw(8));
        }
        return k < 6 ? new String[] {"sore", "light", "with", "hour", hurts ? "held" : "step"}[draw(5)]
                : "(" + expr(depth + 1, hurts) + ")";
    }

    private String text(int mostFigures) {
        List<String> lines = new ArrayList<>();
        int width = 5;
        int height = 4;
        String head = "";
        if (draw(5) > 0) {
            width = 2 + draw(5);
            height = 2 + draw(5);
            head = "table " + width + " " + height + ";";
        }
        int cells = width * height;
        List<Integer> walls = new ArrayList<>();
        for (int i = draw(1 + cells / 3); i > 0; i--) {
            int wall = draw(cells);
            if (!walls.contains(wall)) {
                walls.add(wall);
            }
        }
        for (int wall : walls) {
            head += "wall " + wall + (draw(2) == 0 ? ";" : " ;\n");
        }
        for (int i = draw(mostFigures + 1); i > 0; i--) {
            lines.add("figure " + free(cells, walls) + row(4));
        }
        for (int i = draw(6); i > 0; i--) {
            lines.add("seat " + free(cells, walls));
        }
        if (draw(3) > 0) {
            lines.add("light" + row(9));
        }
        if (draw(3) == 0) {
            lines.add("dull " + draw(10));
        }
        if (draw(2) == 0) {
            lines.add("goes " + expr(0, false));
        }
        if (draw(2) == 0) {
            lines.add("hurts " + expr(0, true));
        }
        java.util.Collections.shuffle(lines, random);
        return lines.isEmpty() ? head : head + String.join(";", lines) + ";";
    }

    private int free(int cells, List<Integer> walls) {
        for (int i = 0; i < 50; i++) {
            int cell = draw(cells);
            if (!walls.contains(cell)) {
                return cell;
            }
        }
        return 0;
    }

    private String row(int most) {
        StringBuilder s = new StringBuilder();
        for (int i = 1 + draw(draw(3) == 0 ? 8 : 4); i > 0; i--) {
            s.append(' ').append(draw(most + 1));
        }
        return s.toString();
    }

    private String spoilt(String text) {
        List<String> tokens = new ArrayList<>();
        java.util.regex.Matcher m = java.util.regex.Pattern.compile("[a-z]+|[0-9]+|[^a-z0-9 ]").matcher(text);
        while (m.find()) {
            tokens.add(m.group());
        }
        for (int i = 1 + draw(2); i > 0 && !tokens.isEmpty(); i--) {
            int at = draw(tokens.size());
            switch (draw(4)) {
                case 0 -> tokens.remove(at);
                case 1 -> tokens.add(at, WORDS[draw(WORDS.length)]);
                case 2 -> tokens.set(at, WORDS[draw(WORDS.length)]);
                default -> tokens.add(at, tokens.get(draw(tokens.size())));
            }
        }
        return String.join(draw(6) == 0 ? "" : " ", tokens);
    }

    private String tell(String told) {
        String text = told.length() > 700 ? told.substring(0, 700) : told;
        for (int from = 0; from < text.length(); from += 20) {
            Object[] five = new Object[5];
            for (int i = 0; i < 5; i++) {
                int four = 0;
                for (int j = 0; j < 4; j++) {
                    int at = from + 4 * i + j;
                    four = four << 8 | (at < text.length() ? text.charAt(at) : 'x');
                }
                five[i] = four;
            }
            both("feed", five);
        }
        if (draw(20) == 0) {
            both("town", near(0, 700));
        }
        String fault = both("town", text.length());
        both("fault");
        return fault;
    }

    private Object[] drawn(String name) {
        int figures = oracle.count(0) - 1;
        int cells = oracle.count(2) * oracle.count(3) - 1;
        return switch (name) {
            case "hours" -> new Object[] {near(1, 20)};
            case "stop" -> new Object[] {near(0, figures), near(1, 9)};
            case "lift", "comes" -> new Object[] {near(0, figures), near(0, cells)};
            case "brush", "seat" -> new Object[] {near(0, figures)};
            case "wall" -> new Object[] {near(0, cells), draw(2) == 0};
            case "note" -> new Object[] {near(0, figures), near(0, cells), draw(3) > 0 ? draw(4) : near(0, 20)};
            case "count" -> new Object[] {near(0, 17)};
            case "figure" -> new Object[] {near(0, figures), near(0, 6)};
            case "cell" -> new Object[] {near(0, cells), near(0, 3)};
            case "then" -> new Object[] {near(0, figures), near(0, draw(2) == 0 ? 10 : 100), near(0, 2)};
            case "meet" -> new Object[] {near(0, figures), near(0, figures)};
            case "crowd" -> new Object[] {near(0, 100), near(0, 1)};
            case "spread", "gone" -> new Object[] {near(0, figures), near(0, 100)};
            case "way" -> new Object[] {near(0, cells), near(0, cells), near(0, 1)};
            case "toStop" -> new Object[] {near(0, figures), near(0, cells), near(0, draw(2) == 0 ? 12 : 100)};
            case "toThin" -> new Object[] {near(0, draw(2) == 0 ? 6 : 60)};
            case "seats", "look" -> new Object[] {near(0, 1)};
            case "ahead" -> new Object[] {near(0, 2)};
            case "clouds" -> new Object[] {near(0, figures), near(0, cells), near(1, 5), near(0, 10)};
            case "game" -> new Object[] {near(0, figures), near(0, figures), near(0, 1)};
            case "years" -> new Object[] {random.nextInt(), near(0, 100), near(0, 2)};
            case "later" -> new Object[] {near(0, draw(2) == 0 ? 8 : 100), near(0, 3)};
            case "together" -> new Object[] {near(0, figures), near(0, figures), near(1, 100)};
            case "quiet" -> new Object[] {near(0, cells), near(1, 100)};
            default -> new Object[0];
        };
    }

    private void calls(int many, String[] first, String[] second) {
        for (int i = 0; i < many; i++) {
            String[] from = draw(2) == 0 ? first : second;
            String name = from[draw(from.length)];
            both(name, drawn(name));
        }
    }

    private void everyState() {
        for (int what = 0; what <= 17; what++) {
            both("count", what);
        }
        for (int f = 0; f < oracle.count(0); f++) {
            for (int what = 0; what <= 6; what++) {
                both("figure", f, what);
            }
        }
        for (int c = 0; c < oracle.count(2) * oracle.count(3); c++) {
            for (int what = 0; what <= 3; what++) {
                both("cell", c, what);
            }
        }
    }

    private void everyGame() {
        for (int f = 0; f < oracle.count(0); f++) {
            for (int other = 0; other < oracle.count(0); other++) {
                both("game", f, other, 0);
                both("game", f, other, 1);
            }
        }
    }

    private static void texts(int seeds) {
        for (int seed = 0; seed < seeds; seed++) {
            OracleTest t = new OracleTest(seed);
            for (int i = 0; i < 10; i++) {
                t.tell(t.draw(5) == 0 ? t.text(8) : t.spoilt(t.text(t.draw(2) == 0 ? 10 : 3)));
            }
            t.everyState();
        }
    }

    private static void runs(int seeds) {
        for (int seed = 0; seed < seeds; seed++) {
            OracleTest t = new OracleTest(1_000_000 + seed);
            if (t.draw(20) > 0) {
                for (int i = 0; i < 5 && !t.tell(t.text(t.draw(4) == 0 ? 7 : 4)).equals("0"); i++) {
                    continue;
                }
            }
            t.everyState();
            t.calls(120, ACTS, ASKS);
            t.calls(50, ACTS, ACTS);
            t.everyState();
            t.everyGame();
            t.tell(t.text(5));
            t.calls(60, ASKS, ASKS);
            t.calls(60, ACTS, ASKS);
        }
    }

    public static void main(String[] args) {
        texts(600);
        runs(250);
        Check.end("OracleTest");
    }
}

import java.io.IOException;
import java.nio.charset.StandardCharsets;
import java.nio.file.Files;
import java.nio.file.Path;
import java.util.HashMap;
import java.util.LinkedHashMap;
import java.util.Map;
import java.util.regex.Matcher;
import java.util.regex.Pattern;

/** Ties checks to the document: each stands behind the words that it is of, and no words may be left without one. */
final class Edge {
    static final int NONE = TownTable.NONE;
    static final int NSE = Check.NSE;
    static final int IAE = Check.IAE;
    static final int FAR = Integer.MAX_VALUE;
    static final int LOW = Integer.MIN_VALUE;

    /** The STATUS that counts a call: of texts, of acts, of notes, or none at all. */
    static final int TEXT = 0;
    static final int ACT = 1;
    static final int NOTE = 2;
    static final int UNCOUNTED = -1;

    // . . . .     figure 0 at 0 goes right, right, down; 1 at 3 goes left; 2 at 8 stays; the third hour is dull
    // . # . .     seats at 2 and 11
    static final String TOWN =
            "table 4 3;wall 5;figure 0 2 2 3;figure 3 4;figure 8 0;seat 2;seat 11;light 5 5 2;";

    private static final Map<String, String> SECTIONS = sections();
    private static final Map<String, boolean[]> TOLD = new HashMap<>();
    private static String section = "";
    private static String sentence;
    private static int checks;

    private Edge() { }

    /** A call of a table. */
    interface On {
        int of(TownTable x);
    }

    /** The document's parts by their headings, each in one line, without headings, signatures and fences. */
    private static Map<String, String> sections() {
        Map<String, String> all = new LinkedHashMap<>();
        String doc;
        try {
            doc = Files.readString(Path.of("../shared/DOC.md"), StandardCharsets.UTF_8);
        } catch (IOException e) {
            System.out.println("no document to compare with: " + e);
            return all;
        }
        Matcher m = Pattern.compile("(?m)^(?:## (Promise \\d+|Terms|Not promised|The public face|What it is).*"
                + "|==== ([2-5])\\.)").matcher(doc);
        String name = null;
        int from = 0;
        while (m.find()) {
            if (name != null) {
                all.put(name, oneLine(doc.substring(from, m.start())));
            }
            name = m.group(1) != null ? m.group(1) : "==== " + m.group(2);
            from = m.end();
        }
        for (String other : new String[] {"Not promised", "The public face", "What it is"}) {
            all.remove(other);
        }
        return all;
    }

    private static String oneLine(String text) {
        return text.replaceAll("```(text)?", " ").replaceAll("`[^`]*\\)[^`]*`:", " ").replaceAll("\\s+", " ").trim();
    }

    /** The part of the document that the next sentences stand in. */
    static void of(String name) {
        finish();
        section = name;
        Check.is("there is a part " + name, SECTIONS.isEmpty() || SECTIONS.containsKey(name), true);
    }

    /** The words of the document that the checks behind this are of. */
    static void says(String words) {
        finish();
        sentence = words;
        String text = SECTIONS.get(section);
        if (text == null) {
            return;
        }
        Check.is(section + " says: " + words, text.contains(words), true);
        boolean[] told = TOLD.computeIfAbsent(section, k -> new boolean[text.length()]);
        for (int at = text.indexOf(words); at >= 0; at = text.indexOf(words, at + 1)) {
            java.util.Arrays.fill(told, at, at + words.length(), true);
        }
    }

    private static void finish() {
        if (sentence != null) {
            Check.is(section + " has a check of: " + sentence, checks > 0, true);
        }
        sentence = null;
        checks = 0;
    }

    private static String label(String about) {
        checks++;
        return section + ", " + sentence + " [" + about + "]";
    }

    /** No word of the document's terms and promises is without a check. */
    static void end() {
        finish();
        for (Map.Entry<String, String> part : SECTIONS.entrySet()) {
            String text = part.getValue();
            boolean[] told = TOLD.getOrDefault(part.getKey(), new boolean[text.length()]);
            StringBuilder left = new StringBuilder();
            for (int i = 0; i < text.length(); i++) {
                left.append(told[i] ? ' ' : text.charAt(i));
            }
            String words = left.toString().replaceAll("\\s+", " ").trim();
            Check.is(part.getKey() + " has words without a check: " + words,
                    Pattern.compile("[A-Za-z0-9]").matcher(words).find(), false);
        }
    }

    static void is(String about, long got, long want) {
        Check.is(label(about), got, want);
    }

    static void yes(String about, boolean got) {
        Check.is(label(about), got, true);
    }

    static void no(String about, boolean got) {
        Check.is(label(about), got, false);
    }

    static void call(String about, Check.Call call, int want) {
        Check.call(label(about), call, want);
    }

    /** A new table with the town of a text that has no fault. */
    static TownTable town(String text) {
        TownTable x = new TownTable();
        is("town of " + text, Check.town(x, text), 0);
        return x;
    }

    static void fine(String text) {
        TownTable x = town(text);
        is("no fault in " + text, x.fault(), NONE);
        is("not refused: " + text, x.count(15), 0);
    }

    /** The fault stands at the first '@', which is left out of the text. */
    static void fault(int number, String marked) {
        int at = marked.indexOf('@');
        String text = marked.substring(0, at) + marked.substring(at + 1);
        TownTable x = new TownTable();
        is("town of " + text, Check.town(x, text), number);
        is("the place in " + text, x.fault(), at);
        is("refused: " + text, x.count(15), 1);
    }

    /** What each figure has, from figure 0 on. */
    static void figures(TownTable x, int what, int... want) {
        for (int f = 0; f < want.length; f++) {
            is("figure(" + f + ", " + what + ")", x.figure(f, what), want[f]);
        }
    }

    /** Where each figure is behind so many hours, from figure 0 on. */
    static void then(TownTable x, int hours, int... want) {
        for (int f = 0; f < want.length; f++) {
            is("then(" + f + ", " + hours + ", 0)", x.then(f, hours, 0), want[f]);
        }
    }

    /** Lets hours go by until it is this one. */
    static void until(TownTable x, int hour) {
        for (int i = 0; i < 500 && x.count(4) < hour; i++) {
            x.hours(Math.min(20, hour - x.count(4)));
        }
    }

    /** All that can be asked of a table without letting hours go by, but for the STATUS. */
    static String state(TownTable x) {
        StringBuilder all = new StringBuilder();
        for (int what = 0; what <= 14; what++) {
            all.append(x.count(what)).append(' ');
        }
        all.append("fault ").append(x.fault());
        for (int f = 0; f < x.count(0); f++) {
            for (int what = 0; what <= 6; what++) {
                all.append(what == 0 ? " figure " : " ").append(x.figure(f, what));
            }
        }
        for (int c = 0; c < x.count(2) * x.count(3); c++) {
            for (int what = 0; what <= 2; what++) {
                all.append(what == 0 ? " cell " : " ").append(x.cell(c, what));
            }
        }
        return all.toString();
    }

    /** The call answers this, and nothing is otherwise behind it but the STATUS that counts it. */
    static void refused(String about, TownTable x, int status, On call, int want) {
        String before = state(x);
        int[] counted = {x.count(15), x.count(16), x.count(17)};
        is(about, Check.answer(() -> call.of(x)), want);
        String after = state(x);
        yes(about + ": all stays, " + before + " is now " + after, before.equals(after));
        for (int s = 0; s < 3; s++) {
            is(about + ": STATUS " + s, x.count(15 + s), counted[s] + (s == status ? 1 : 0));
        }
    }

    /** Numbers that are not from the least to the most one. */
    static int[] outside(int least, int most) {
        return new int[] {least - 1, most + 1, LOW, FAR, -most - 1, most + 256};
    }

    /** A call that throws leaves all as it was, in a town by light and in one that is dull. */
    static void throwsBoth(String about, On call, int what) {
        refused(about, town("table 2 2;figure 0 2;figure 1 0;seat 3;"), UNCOUNTED, call, what);
        refused(about + ", dull", town("table 2 2;figure 0 2;figure 1 0;light 0;"), UNCOUNTED, call, what);
    }

    /** A call that only asks: its answer, and nothing is otherwise behind it. */
    static void asks(String about, TownTable x, On call, int want) {
        refused(about, x, UNCOUNTED, call, want);
    }
}

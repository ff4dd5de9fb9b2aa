import java.io.IOException;
import java.io.PrintWriter;
import java.io.StringWriter;
import java.lang.reflect.Constructor;
import java.lang.reflect.Field;
import java.lang.reflect.Method;
import java.lang.reflect.Modifier;
import java.nio.charset.StandardCharsets;
import java.nio.file.Files;
import java.nio.file.Path;
import java.util.Arrays;
import java.util.HashMap;
import java.util.Map;
import java.util.Set;
import java.util.TreeSet;
import java.util.regex.Matcher;
import java.util.regex.Pattern;
import java.util.spi.ToolProvider;
import java.util.stream.Collectors;
import java.util.stream.Stream;

/** The class's face, and those rules of LANGUAGE.md that can be seen in the class file or the source. */
public final class FaceTest {
    private static final String[] FACE = {
        "int feed(int,int,int,int,int)", "int town(int) IllegalArgumentException", "int fault()",
        "int count(int) NoSuchElementException", "int figure(int,int) NoSuchElementException",
        "int cell(int,int) NoSuchElementException", "int hours(int)", "int stop(int,int) NoSuchElementException",
        "int lift(int,int) NoSuchElementException", "int brush(int) NoSuchElementException",
        "boolean wall(int,boolean) NoSuchElementException", "int undo()",
        "int then(int,int,int) NoSuchElementException IllegalArgumentException",
        "int comes(int,int) NoSuchElementException", "int meet(int,int) NoSuchElementException",
        "int crowd(int,int) NoSuchElementException IllegalArgumentException", "int round()",
        "int spread(int,int) NoSuchElementException IllegalArgumentException",
        "int way(int,int,int) NoSuchElementException",
        "int toStop(int,int,int) NoSuchElementException IllegalArgumentException",
        "int toThin(int) IllegalArgumentException", "int seats(int) NoSuchElementException",
        "int seat(int) NoSuchElementException", "int note(int,int,int) NoSuchElementException", "void forget()",
        "int ahead(int) NoSuchElementException", "int look(int) NoSuchElementException",
        "int clouds(int,int,int,int) NoSuchElementException IllegalArgumentException",
        "int game(int,int,int) NoSuchElementException IllegalArgumentException",
        "int years(int,int,int) NoSuchElementException IllegalArgumentException",
        "int later(int,int) NoSuchElementException IllegalArgumentException",
        "int together(int,int,int) NoSuchElementException IllegalArgumentException",
        "int quiet(int,int) NoSuchElementException IllegalArgumentException",
        "int gone(int,int) NoSuchElementException IllegalArgumentException", "void image()", "boolean restore()"};

    private static void fine(String label, boolean is) {
        Check.is(label, is, true);
    }

    private static String told(Method m) {
        String types = Arrays.stream(m.getParameterTypes()).map(Class::getSimpleName).collect(Collectors.joining(","));
        String thrown = Arrays.stream(m.getExceptionTypes()).map(t -> " " + t.getSimpleName())
                .collect(Collectors.joining());
        return m.getReturnType().getSimpleName() + " " + m.getName() + "(" + types + ")" + thrown;
    }

    private static void face() {
        Class<?> of = TownTable.class;
        fine("public and final", Modifier.isPublic(of.getModifiers()) && Modifier.isFinal(of.getModifiers()));
        Set<String> want = new TreeSet<>(Arrays.asList(FACE));
        Set<String> got = new TreeSet<>();
        Set<String> names = new TreeSet<>();
        for (Method m : of.getDeclaredMethods()) {
            if (Modifier.isPublic(m.getModifiers())) {
                got.add(told(m));
                names.add(m.getName());
                fine(m.getName() + " is no static method", !Modifier.isStatic(m.getModifiers()));
            } else {
                fine(m.getName() + " is private", Modifier.isPrivate(m.getModifiers()));
            }
        }
        fine("the public methods are " + got, got.equals(want));
        for (Field f : of.getDeclaredFields()) {
            boolean none = f.getName().equals("NONE") && Modifier.isPublic(f.getModifiers());
            fine(f.getName() + " is private", none || Modifier.isPrivate(f.getModifiers()));
            fine(f.getName() + " is final if static",
                    !Modifier.isStatic(f.getModifiers()) || Modifier.isFinal(f.getModifiers()));
        }
        Constructor<?>[] made = of.getDeclaredConstructors();
        fine("one public constructor", made.length == 1 && Modifier.isPublic(made[0].getModifiers())
                && made[0].getParameterCount() == 0);
        Class<?>[] inside = of.getDeclaredClasses();
        fine("some twelve classes", inside.length <= 12);
        for (Class<?> c : inside) {
            within(c, names);
        }
        fine("fields", fields(of) <= 22);
    }

    /** The list above is the face that the document tells, and NONE is the only constant. */
    private static void faceOfDocument() throws IOException {
        String doc = Files.readString(Path.of("../shared/DOC.md"), StandardCharsets.UTF_8);
        Set<String> told = new TreeSet<>();
        Matcher m = Pattern.compile("(?m)^    public (int|boolean|void) (\\w+)\\(([^)]*)\\)(?: throws ([^;]+))?;")
                .matcher(doc);
        while (m.find()) {
            String types = m.group(3).replaceAll(" \\w+(?=,|$)", "").replace(" ", "");
            String thrown = m.group(4) == null ? "" : " " + m.group(4).replace(",", "");
            told.add(m.group(1) + " " + m.group(2) + "(" + types + ")" + thrown);
        }
        fine("the document tells " + told, told.equals(new TreeSet<>(Arrays.asList(FACE))));
        fine("the document's constant", doc.contains("public static final int NONE = -1;") && TownTable.NONE == -1);
        fine("no other constant", doc.split("public static final", -1).length == 2);
    }

    private static long fields(Class<?> of) {
        return Arrays.stream(of.getDeclaredFields()).filter(f -> !Modifier.isStatic(f.getModifiers())).count();
    }

    private static void within(Class<?> c, Set<String> names) {
        fine(c + " is static", Modifier.isStatic(c.getModifiers()) && !Modifier.isPublic(c.getModifiers()));
        fine(c + " has some twenty fields", fields(c) <= 22);
        for (Method m : c.getDeclaredMethods()) {
            fine(c + "." + m.getName() + " bears no public name", !names.contains(m.getName()));
            fine(c + "." + m.getName() + " takes at most seven", m.getParameterCount() <= 7);
        }
        for (Field f : c.getDeclaredFields()) {
            fine(c + "." + f.getName() + " is final if static",
                    !Modifier.isStatic(f.getModifiers()) || Modifier.isFinal(f.getModifiers()));
        }
    }

    private static String withoutTexts(String source) {
        return source.replaceAll("(?s)/\\*.*?\\*/", "").replaceAll("//[^\n]*", "")
                .replaceAll("\"(\\\\.|[^\"\\\\])*\"", "\"\"");
    }

    private static void source() throws IOException {
        String all = Files.readString(Path.of("src/main/java/TownTable.java"), StandardCharsets.UTF_8);
        String code = withoutTexts(all);
        Set<String> imports = new TreeSet<>();
        Matcher m = Pattern.compile("import ([^;]+);").matcher(code);
        while (m.find()) {
            imports.add(m.group(1));
        }
        fine("imports are " + imports,
                Set.of("java.util.Arrays", "java.util.NoSuchElementException").containsAll(imports));
        for (String word : new String[] {"package", "synchronized", "assert", "finally", "try", "catch", "protected",
            "float", "double", "native", "volatile", "transient", "var", "Object", "Random", "Thread", "null",
            "instanceof", "hashCode", "equals", "toString"}) {
            fine("no " + word, !Pattern.compile("\\b" + word + "\\b").matcher(code).find());
        }
        for (String sign : new String[] {"->", "::", "@", "Exact("}) {
            fine("no " + sign, !code.contains(sign));
        }
        fine("no static block", !Pattern.compile("static\\s*\\{").matcher(code).find());
        Matcher thrown = Pattern.compile("throw ([^;]+);").matcher(code);
        while (thrown.find()) {
            fine("throw " + thrown.group(1),
                    thrown.group(1).matches("new (IllegalArgument|NoSuchElement)Exception\\(\"\"\\)"));
        }
        fine("signs 1 to 127", all.chars().allMatch(c -> c > 0 && c < 128));
        shortMethods(code);
    }

    private static void shortMethods(String code) {
        String[] lines = code.split("\n");
        int begun = -1;
        String indent = "";
        for (int i = 0; i < lines.length; i++) {
            Matcher head = Pattern.compile("^( {4}| {8})[a-z][^=;]*\\)[^=;]*\\{$").matcher(lines[i]);
            if (begun < 0 && head.find()) {
                begun = i;
                indent = head.group(1);
            } else if (begun >= 0 && lines[i].equals(indent + "}")) {
                fine("line " + (begun + 1) + ": a short method", i - begun < 60);
                begun = -1;
            }
        }
    }

    /** Which methods a method calls, by javap's words, the library's too. */
    private static Map<String, Set<String>> calls() throws IOException {
        Path made = Files.createTempDirectory("face");
        Map<String, Set<String>> calls = new HashMap<>();
        ToolProvider javac = ToolProvider.findFirst("javac").orElseThrow();
        javac.run(System.out, System.out, "-d", made.toString(), "src/main/java/TownTable.java");
        Pattern head = Pattern.compile("^  .*?([\\w$]+)\\([^)]*\\).*;$");
        Pattern call = Pattern.compile("// (?:Interface)?Method ([^:]+):");
        try (Stream<Path> files = Files.list(made)) {
            for (Path file : files.toList()) {
                String of = file.getFileName().toString().replace(".class", "");
                StringWriter out = new StringWriter();
                PrintWriter print = new PrintWriter(out);
                ToolProvider.findFirst("javap").orElseThrow().run(print, print, "-c", "-p", file.toString());
                String in = "";
                for (String line : out.toString().split("\n")) {
                    Matcher m = head.matcher(line);
                    if (m.find()) {
                        in = of + "." + (m.group(1).equals(of) ? "<init>" : m.group(1));
                        calls.putIfAbsent(in, new TreeSet<>());
                    }
                    m = call.matcher(line);
                    if (m.find()) {
                        String to = m.group(1).replace("\"", "");
                        calls.get(in).add(to.contains(".") ? to : of + "." + to);
                    }
                }
                Files.delete(file);
            }
        }
        Files.delete(made);
        return calls;
    }

    private static int depth(Map<String, Set<String>> calls, String method, int open) {
        int most = open;
        for (String to : calls.getOrDefault(method, Set.of())) {
            most = Math.max(most, open > 20 ? open : depth(calls, to, open + 1));
        }
        return most;
    }

    /** Rule 11: calls go at most eight deep, even with the library's counted; no method comes back to itself. */
    private static void depths() throws IOException {
        if (ToolProvider.findFirst("javap").isEmpty()) {
            return;
        }
        Map<String, Set<String>> calls = calls();
        fine("the methods were found", calls.containsKey("TownTable.town")
                && calls.get("TownTable.town").contains("TownTable$PlanReader.read"));
        for (String method : calls.keySet()) {
            int deep = depth(calls, method, 1);
            fine(method + " goes " + deep + " deep", deep <= 8);
        }
    }

    /** Whatever is asked of it, a table makes nothing new: its room stays what it was when it was made. */
    private static void room() {
        com.sun.management.ThreadMXBean threads =
                (com.sun.management.ThreadMXBean) java.lang.management.ManagementFactory.getThreadMXBean();
        TownTable x = Check.table("table 6 6;wall 9;figure 0 2 3;figure 1 3 2;figure 7 1 2 3 4 0 1 2 3;seat 3;seat 4;"
                + "goes with<2 and not sore=7;hurts held;");
        long id = Thread.currentThread().getId();
        every(x);
        long before = threads.getThreadAllocatedBytes(id);
        for (int i = 0; i < 10; i++) {
            every(x);
        }
        long made = threads.getThreadAllocatedBytes(id) - before;
        fine("calls make nothing, but made bytes: " + made, made < 2000);
    }

    private static void every(TownTable x) {
        for (int what = 0; what <= 17; what++) {
            x.count(what);
        }
        x.figure(0, 6);
        x.cell(0, 3);
        x.hours(1);
        x.stop(1, 2);
        x.lift(0, 35);
        x.brush(1);
        x.wall(20, true);
        x.image();
        x.restore();
        for (int i = 0; i < 5; i++) {
            x.undo();
        }
        x.note(0, 0, 0);
        x.ahead(0);
        x.look(1);
        x.forget();
        x.then(0, 20, 0);
        x.comes(0, 30);
        x.meet(0, 1);
        x.crowd(10, 1);
        x.round();
        x.spread(0, 20);
        x.way(0, 35, 1);
        x.toStop(0, 3, 20);
        x.toThin(30);
        x.seats(1);
        x.seat(0);
        x.clouds(0, 1, 5, 3);
        x.game(0, 1, 1);
        x.years(3, 20, 2);
        for (int what = 0; what <= 3; what++) {
            x.later(9, what);
        }
        x.together(0, 1, 10);
        x.quiet(3, 10);
        x.gone(0, 10);
    }

    public static void main(String[] args) throws IOException {
        face();
        faceOfDocument();
        source();
        depths();
        room();
        Check.end("FaceTest");
    }
}

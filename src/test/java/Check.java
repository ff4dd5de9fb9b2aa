import java.util.NoSuchElementException;

/** Counts what is as due and prints what isn't. */
final class Check {
    static final int NSE = 1_000_001;
    static final int IAE = 1_000_002;

    private static int passed = 0;
    private static int failed = 0;

    private Check() { }

    /** A call of the table. */
    interface Call {
        int of();
    }

    static void is(String label, long got, long want) {
        if (got == want) {
            passed++;
        } else {
            failed++;
            if (failed <= 50) {
                System.out.println(label + ": answered " + name(got) + ", due is " + name(want));
            }
        }
    }

    static void is(String label, boolean got, boolean want) {
        is(label, got ? 1 : 0, want ? 1 : 0);
    }

    /** The answer, or NSE or IAE for the exceptions that the document names; another one ends the test. */
    static int answer(Call call) {
        try {
            return call.of();
        } catch (NoSuchElementException e) {
            return NSE;
        } catch (IllegalArgumentException e) {
            return IAE;
        }
    }

    static void call(String label, Call call, int want) {
        is(label, answer(call), want);
    }

    static String name(long answer) {
        return answer == NSE ? "NoSuchElementException" : answer == IAE ? "IllegalArgumentException" : "" + answer;
    }

    static int failures() {
        return failed;
    }

    /** Feeds a text, blanks behind it, without asking for a town. */
    static int tape(TownTable x, String text) {
        int size = 0;
        for (int from = 0; from < text.length(); from += 20) {
            int[] five = new int[5];
            for (int i = 0; i < 20; i++) {
                int c = from + i < text.length() ? text.charAt(from + i) : ' ';
                five[i / 4] = five[i / 4] << 8 | c;
            }
            size = x.feed(five[0], five[1], five[2], five[3], five[4]);
        }
        return size;
    }

    /** Feeds a text and asks for its town. */
    static int town(TownTable x, String text) {
        tape(x, text);
        return x.town(text.length());
    }

    /** A new table with the town of a text that has no fault. */
    static TownTable table(String text) {
        TownTable x = new TownTable();
        is("town of " + text, town(x, text), 0);
        return x;
    }

    static void end(String test) {
        System.out.println(test + ": " + passed + " passed, " + failed + " failed");
        if (failed > 0) {
            System.exit(1);
        }
    }
}

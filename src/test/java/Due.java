import java.util.NoSuchElementException;

/** What is due in a test: prints every answer that is another one, and ends with exit code 1 if there was one. */
final class Due {
    private static int wrong = 0;
    private static int looked = 0;
    private static String sentence = "";
    private static int lookedAhead = -1;

    interface Call {
        long answer();
    }

    private Due() {
    }

    /** The sentence of the document by which all answers are due that are looked at until the next one. */
    static void by(String of, String told) {
        if (looked == lookedAhead) {
            wrong("no answer was looked at");
        }
        lookedAhead = looked;
        sentence = " (" + of + ": \"" + told + "\")";
    }

    static void same(String call, long want, long got) {
        looked++;
        if (want != got) {
            wrong(call + " answered " + got + ", due is " + want);
        }
    }

    static void yes(String call, boolean got) {
        same(call, 1, got ? 1 : 0);
    }

    static void no(String call, boolean got) {
        same(call, 0, got ? 1 : 0);
    }

    static void isMissing(String call, Call made) {
        fails(call, NoSuchElementException.class, made);
    }

    static void isRefused(String call, Call made) {
        fails(call, IllegalArgumentException.class, made);
    }

    private static void fails(String call, Class<? extends RuntimeException> due, Call made) {
        looked++;
        try {
            wrong(call + " answered " + made.answer() + ", due is " + due.getSimpleName());
        } catch (RuntimeException e) {
            if (e.getClass() != due) {
                wrong(call + " threw " + e + ", due is " + due.getSimpleName());
            }
        }
    }

    static void wrong(String what) {
        wrong++;
        System.out.println(what + sentence);
    }

    static void end() {
        System.out.println(looked + " answers looked at, " + wrong + " not as due");
        if (wrong > 0 || looked == 0) {
            System.exit(1);
        }
    }
}

/** Counts and prints the calls whose answer is not the one that is due. */
final class Due {
    private static int wrong = 0;
    private static int asked = 0;

    private Due() {
    }

    static void is(String call, int got, int want) {
        asked++;
        if (got != want) {
            wrong++;
            if (wrong <= 50) {
                System.out.println(call + " answered " + got + ", due is " + want);
            }
        }
    }

    /** For what is no number. */
    static void same(String what, Object got, Object want) {
        if (!got.equals(want)) {
            System.out.println(what + ": " + got + ", due is " + want);
        }
        is(what, got.equals(want) ? 1 : 0, 1);
    }

    /** Closes a test's main method. */
    static void close() {
        System.out.println(asked + " answers asked for, " + wrong + " not as due");
        if (wrong != 0) {
            System.exit(1);
        }
    }

    static CrookedFrames written(String text) {
        CrookedFrames x = new CrookedFrames();
        write(x, text);
        return x;
    }

    static void write(CrookedFrames x, String text) {
        for (int n = 0; n < text.length(); n++) {
            x.write(text.charAt(n));
        }
    }

    static CrookedFrames laid(String text) {
        CrookedFrames x = written(text);
        if (x.lay() < 0) {
            is("lay() of " + text, -2, 0);
        }
        return x;
    }
}

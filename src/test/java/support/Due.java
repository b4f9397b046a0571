/** Compares answers with those that are due, and ends the program with exit code 1 if one was wrong. */
final class Due {
    private static int compared = 0;
    private static int wrong = 0;

    private Due() {
    }

    static void is(String call, long got, long want) {
        compared++;
        if (got != want) {
            wrong++;
            System.out.println(call + " answered " + got + ", due is " + want);
        }
    }

    static void isTrue(String claim, boolean holds) {
        is(claim, holds ? 1 : 0, 1);
    }

    /** Compares count(0), count(1), .. with their values. */
    static void countsAre(String when, StairBows x, int... values) {
        for (int what = 0; what < values.length; what++) {
            is(when + ": count(" + what + ")", x.count(what), values[what]);
        }
    }

    /** The number that puts a text of up to 8 characters. */
    static long text(String signs) {
        long characters = 0;
        for (int i = 0; i < signs.length(); i++) {
            characters = characters << 8 | signs.charAt(i);
        }
        return characters;
    }

    static int wrongSoFar() {
        return wrong;
    }

    static void end() {
        System.out.println(wrong == 0 ? compared + " answers are as due" : wrong + " of " + compared + " answers are not as due");
        if (wrong != 0) {
            System.exit(1);
        }
    }
}

/** Compares answers with those that are due, and ends the program with exit code 1 if one was wrong. */
final class Due {
    private static int compared = 0;
    private static int wrong = 0;
    private static String sentence = "";
    private static boolean isSentenceTold = true;

    private Due() {
    }

    /** What is compared from now on is of this place of the document, and of this sentence of it. */
    static void of(String place, String words) {
        sentence = place + ": \"" + words + "\"";
        isSentenceTold = false;
    }

    /** The same, where the sentence has several tests: the remark tells of which case this one is. */
    static void of(String place, String words, String remark) {
        of(place, words);
        sentence += " (" + remark + ")";
    }

    static void is(String call, long got, long want) {
        compared++;
        if (got != want) {
            wrong++;
            tellSentence();
            System.out.println("  " + call + " answered " + got + ", due is " + want);
        }
    }

    private static void tellSentence() {
        if (!isSentenceTold) {
            System.out.println(sentence + " does not hold:");
            isSentenceTold = true;
        }
    }

    static void isTrue(String claim, boolean holds) {
        is(claim, holds ? 1 : 0, 1);
    }

    /** Compares count(0), count(1), .. with their values. */
    static void countsAre(String when, StairBows x, int... values) {
        for (int what = 0; what < values.length; what++) {
            is(when + ": count(" + what + ")", x.count(what), values[what]);
        }
    }

    /** Compares person(number, 0), person(number, 1), .. with their values. */
    static void personIs(String when, StairBows x, int number, int... values) {
        for (int what = 0; what < values.length; what++) {
            is(when + ": person(" + number + ", " + what + ")", x.person(number, what), values[what]);
        }
    }

    /** Compares where the people 0, 1, .. stand: the steps, or NONE. */
    static void stepsAre(String when, StairBows x, int... steps) {
        for (int number = 0; number < steps.length; number++) {
            is(when + ": person(" + number + ", 3)", x.person(number, 3), steps[number]);
        }
    }

    /** The number that puts a text of up to 8 characters. */
    static long text(String signs) {
        long characters = 0;
        for (int i = 0; i < signs.length(); i++) {
            characters = characters << 8 | signs.charAt(i);
        }
        return characters;
    }

    /** Puts a text of any length, eight characters a call; answers what the last call did. */
    static int putAll(StairBows x, String signs) {
        int answer = 0;
        for (int i = 0; i < signs.length(); i += 8) {
            answer = x.put(text(signs.substring(i, Math.min(i + 8, signs.length()))));
        }
        return answer;
    }

    static int wrongSoFar() {
        return wrong;
    }

    static void end() {
        System.out.println(wrong == 0 ? compared + " answers are as due" : wrong + " of " + compared + " answers are not as due");
        if (wrong != 0) {
            System.exit(1);
        }
    }
}

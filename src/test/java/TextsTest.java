/** Promises 16 to 18, and the terms of texts: the pad. */
public final class TextsTest {
    private static final String TEXTS = "Terms, texts", PUT = "Promise 16", WIPE = "Promise 17", FAULT = "Promise 18";
    private static final int BAD_VALUE = -2, BAD_TEXT = -3, TOO_MANY = -4, NONE = -6;

    public static void main(String[] args) {
        putOneToEightCharacters();
        putOrder();
        putNoCharacter();
        putCodes();
        putCodesAtAnyPlace();
        putEndsAtTheFirstZero();
        putBitAboveNoCharacter();
        putSignBit();
        putMoreThan60();
        putMoreThan60AtAnyLength();
        putIsNoChange();
        wipeReturnsTheLength();
        wipeEmpties();
        wipeIsNoChange();
        faultWays();
        faultRanks();
        faultOfPeople();
        faultPlaces();
        faultEndsTooEarly();
        faultOfAnEmptyPad();
        faultOfAFullPad();
        faultNone();
        faultIsThatOfRead();
        Due.end();
    }

    private static int faultOf(String text) {
        StairBows x = new StairBows();
        Due.putAll(x, text);
        return x.fault();
    }

    // ---- promise 16

    private static void putOneToEightCharacters() {
        Due.of(PUT, "Appends characters to the pad. [..] 1 to 8 characters [..] Returns the length of the pad then");
        StairBows x = new StairBows();
        int length = 0;
        for (int characters = 1; characters <= 8; characters++) {
            length += characters;
            Due.is(characters + " characters", x.put(Due.text("u1d2u3d4".substring(0, characters))), length);
            Due.is("the length", x.count(13), length);
        }
    }

    private static void putOrder() {
        Due.of(PUT, "They are given as a number: its lowest 8 bits are the last character, the next 8 bits the one before, and so on");
        StairBows x = new StairBows();
        Due.is("eight", x.put(0x7531643275336434L), 8);
        Due.is("two more behind them", x.put(0x6435), 10);
        Due.is("no fault", x.fault(), NONE);
        Due.is("read()", x.read(), 5);
        int[] ways = {1, 0, 1, 0, 0};
        for (int number = 0; number < 5; number++) {
            Due.is("the way of " + number, x.person(number, 1), ways[number]);
            Due.is("the rank of " + number, x.person(number, 0), number + 1);
        }
        Due.is("the other way around", x.put(0x3175), 2);
        Due.is("there is a fault", x.fault(), 0);
    }

    private static void putNoCharacter() {
        Due.of(PUT, "BAD_VALUE if there is no character");
        StairBows x = new StairBows();
        Due.is("put(0)", x.put(0), BAD_VALUE);
        Due.is("the length", x.count(13), 0);
        x.put('u');
        Due.is("put(0) behind another", x.put(0), BAD_VALUE);
        Due.is("the length then", x.count(13), 1);
    }

    private static void putCodes() {
        Due.of(PUT, "BAD_VALUE if [..] a code is not 33 to 126");
        for (int code = 1; code < 256; code++) {
            StairBows x = new StairBows();
            boolean isCode = code >= 33 && code <= 126;
            Due.is("put(" + code + ")", x.put(code), isCode ? 1 : BAD_VALUE);
            Due.is("put(" + code + "): the length", x.count(13), isCode ? 1 : 0);
        }
    }

    private static void putCodesAtAnyPlace() {
        Due.of(PUT, "BAD_VALUE if [..] a code is not 33 to 126", "at any of the 8 places");
        long text = Due.text("u1d2u3d4");
        for (int place = 0; place < 8; place++) {
            long others = text & ~(255L << 8 * place);
            for (long code : new long[] {33, 126}) {
                Due.is(code + " at " + place, new StairBows().put(others | code << 8 * place), 8);
            }
            for (long code : new long[] {1, 32, 127, 128, 255}) {
                StairBows x = new StairBows();
                Due.is(code + " at " + place, x.put(others | code << 8 * place), BAD_VALUE);
                Due.is("nothing is appended", x.count(13), 0);
            }
        }
    }

    private static void putEndsAtTheFirstZero() {
        Due.of(PUT, "8 bits that are 0 mean that there are no more characters, and everything above them has to be 0, too.");
        for (int characters = 1; characters <= 8; characters++) {
            StairBows x = new StairBows();
            Due.is(characters + " and no more", x.put(Due.text("uuuuuuuu".substring(0, characters))), characters);
            Due.is("the length", x.count(13), characters);
        }
        Due.is("none in the midst", new StairBows().put(0x7500750075L), BAD_VALUE);
        Due.is("none at the end", new StairBows().put(0x7500), BAD_VALUE);
        Due.is("none ahead of the eighth", new StairBows().put(0x7500757575757575L), BAD_VALUE);
    }

    private static void putBitAboveNoCharacter() {
        Due.of(PUT, "BAD_VALUE if [..] a bit above 8 bits that are 0 is not 0");
        for (int characters = 0; characters < 7; characters++) {
            long text = Due.text("u1d2u3d4".substring(0, characters));
            for (int bit = 8 * characters + 8; bit < 64; bit++) {
                StairBows x = new StairBows();
                Due.is(characters + " characters, and the bit " + bit, x.put(text | 1L << bit), BAD_VALUE);
                Due.is("nothing is appended", x.count(13), 0);
            }
            long above = 'u' * 0x0101010101010101L << 8 * characters + 8;
            Due.is(characters + " characters, none, and good ones above", new StairBows().put(text | above), BAD_VALUE);
        }
    }

    private static void putSignBit() {
        Due.of(PUT, "BAD_VALUE if [..] a code is not 33 to 126", "where the number is below 0");
        StairBows x = new StairBows();
        Due.is("put(-1)", x.put(-1), BAD_VALUE);
        Due.is("the least number", x.put(Long.MIN_VALUE), BAD_VALUE);
        Due.is("the greatest number", x.put(Long.MAX_VALUE), BAD_VALUE);
        Due.is("good characters and the sign", x.put(Long.MIN_VALUE | Due.text("u1d2u3d4")), BAD_VALUE);
        Due.is("the greatest code at all places", x.put(0x7e7e7e7e7e7e7e7eL), 8);
        Due.is("the least code at all places", x.put(0x2121212121212121L), 16);
    }

    private static void putMoreThan60() {
        Due.of(PUT, "TOO_MANY if the pad would be longer than 60.");
        StairBows x = new StairBows();
        Due.is("52", Due.putAll(x, "u1d2".repeat(13)), 52);
        Due.is("to 60", x.put(Due.text("u1d2u3d4")), 60);
        Due.is("one more", x.put('u'), TOO_MANY);
        Due.is("eight more", x.put(Due.text("u1d2u3d4")), TOO_MANY);
        Due.is("the length", x.count(13), 60);
        Due.is("nothing was written over", x.fault(), NONE);
        Due.is("wipe()", x.wipe(), 60);
        Due.is("then there is room", x.put('u'), 1);
    }

    private static void putMoreThan60AtAnyLength() {
        Due.of(PUT, "TOO_MANY if the pad would be longer than 60.", "at any length");
        for (int length = 53; length <= 60; length++) {
            for (int characters = 1; characters <= 8; characters++) {
                StairBows x = new StairBows();
                Due.putAll(x, "u1".repeat(30).substring(0, length));
                boolean fits = length + characters <= 60;
                int answer = x.put(Due.text("dddddddd".substring(0, characters)));
                Due.is(length + " and " + characters, answer, fits ? length + characters : TOO_MANY);
                Due.is("the length", x.count(13), fits ? length + characters : length);
            }
        }
    }

    private static void putIsNoChange() {
        Due.of("Promise 19", "everything except the pad [..] is as it was", "put");
        StairBows x = new StairBows();
        x.put('u');
        Due.is("no change", x.count(14), 0);
        x.pass(1);
        x.put('1');
        x.undo();
        Due.is("the pad is as it is", x.count(13), 2);
        Due.is("read()", x.read(), 1);
    }

    // ---- promise 17

    private static void wipeReturnsTheLength() {
        Due.of(WIPE, "Empties the pad, and returns the length that it had.");
        for (int length = 0; length <= 60; length++) {
            StairBows x = new StairBows();
            Due.putAll(x, "x".repeat(length));
            Due.is("wipe() of " + length, x.wipe(), length);
            Due.is("the length then", x.count(13), 0);
            Due.is("once more", x.wipe(), 0);
        }
    }

    private static void wipeEmpties() {
        Due.of(WIPE, "Empties the pad", "so that the next text begins at the index 0");
        StairBows x = new StairBows();
        x.put(Due.text("u1d"));
        x.wipe();
        Due.is("the fault of an empty text", x.fault(), 0);
        Due.is("nobody to read", x.read(), BAD_TEXT);
        x.put(Due.text("d3"));
        Due.is("the old text is gone", x.read(), 1);
        Due.is("the new one was read", x.person(0, 0), 3);
    }

    private static void wipeIsNoChange() {
        Due.of("Promise 19", "everything except the pad [..] is as it was", "wipe");
        StairBows x = new StairBows();
        x.come(5, true);
        x.put(Due.text("u1"));
        x.wipe();
        Due.is("no change more", x.count(14), 1);
        x.undo();
        Due.is("it stays empty", x.count(13), 0);
    }

    // ---- promise 18, and the terms of texts

    private static void faultWays() {
        Due.of(TEXTS, "a way is \"u\" (up) or \"d\" (down)");
        for (int code = 33; code <= 126; code++) {
            boolean isWay = code == 'u' || code == 'd';
            Due.is("the fault of " + (char) code, faultOf("" + (char) code), isWay ? 1 : 0);
            Due.is("the fault of u1" + (char) code + "1", faultOf("u1" + (char) code + "1"), isWay ? NONE : 2);
        }
    }

    private static void faultRanks() {
        Due.of(TEXTS, "a rank a digit 1 to 9");
        for (int code = 33; code <= 126; code++) {
            boolean isRank = code >= '1' && code <= '9';
            Due.is("the fault of u" + (char) code, faultOf("u" + (char) code), isRank ? NONE : 1);
            Due.is("the fault of u1d" + (char) code, faultOf("u1d" + (char) code), isRank ? NONE : 3);
        }
    }

    private static void faultOfPeople() {
        Due.of(TEXTS, "a procession: text = person { person }; person = way rank");
        Due.is("one person", faultOf("u1"), NONE);
        Due.is("two", faultOf("u1d2"), NONE);
        Due.is("a rank and a way", faultOf("1d"), 0);
        Due.is("two ways", faultOf("ud1"), 1);
        Due.is("two ranks", faultOf("u12"), 2);
        Due.is("something between", faultOf("u1,d2"), 2);
        Due.is("something behind", faultOf("u1d2;"), 4);
    }

    private static void faultPlaces() {
        Due.of(TEXTS, "The fault is the index of the first character that cannot stand at its place when the text is read from left to right");
        for (int place = 0; place < 60; place++) {
            String good = "u1d9".repeat(15);
            Due.is("at " + place, faultOf(good.substring(0, place) + "x" + good.substring(place + 1)), place);
            Due.is("at the end, " + place, faultOf(good.substring(0, place) + "x"), place);
        }
        Due.is("the first of several", faultOf("u1d0u0x"), 3);
        Due.is("two ways", faultOf("uu"), 1);
        Due.is("two ranks", faultOf("u11"), 2);
        Due.is("a rank first", faultOf("1u"), 0);
        Due.is("a fault comes ahead of the end", faultOf("u1du"), 3);
    }

    private static void faultEndsTooEarly() {
        Due.of(TEXTS, "if there is none and the text ends too early [..], it is the length of the text");
        for (int length = 1; length <= 59; length += 2) {
            Due.is("of " + length, faultOf("u1d9".repeat(15).substring(0, length)), length);
        }
    }

    private static void faultOfAnEmptyPad() {
        Due.of(TEXTS, "(also if it is empty), it is the length of the text");
        StairBows x = new StairBows();
        Due.is("a new one", x.fault(), 0);
        x.put(Due.text("u1"));
        x.wipe();
        Due.is("a wiped one", x.fault(), 0);
        x.put(Due.text("u1"));
        x.read();
        Due.is("one that was read", x.fault(), 0);
    }

    private static void faultOfAFullPad() {
        Due.of(TEXTS, "The pad is a text of at most 60 characters");
        Due.is("30 people", faultOf("u1".repeat(30)), NONE);
        Due.is("the last character", faultOf("u1".repeat(29) + "ux"), 59);
        StairBows x = new StairBows();
        Due.is("60", Due.putAll(x, "u1".repeat(30)), 60);
        Due.is("61", x.put('u'), TOO_MANY);
        Due.is("no fault", x.fault(), NONE);
    }

    private static void faultNone() {
        Due.of(FAULT, "Returns the fault of the pad, NONE if there is none.");
        for (int length = 2; length <= 60; length += 2) {
            Due.is("of " + length, faultOf("u1d9".repeat(15).substring(0, length)), NONE);
        }
        Due.is("of u0", faultOf("u0"), 1);
        Due.is("of d9", faultOf("d9"), NONE);
    }

    private static void faultIsThatOfRead() {
        Due.of("Promise 5", "BAD_TEXT if the pad has a fault");
        String[] texts = {"", "u", "u1", "u1d", "u1d9", "u0", "u:", "ud", "1", "U1", "v1", "t1", "c1", "e1", "u1x", "u1u9d0d1", "u11", "~"};
        for (String text : texts) {
            StairBows x = new StairBows();
            Due.putAll(x, text);
            boolean isGood = x.fault() == NONE;
            Due.is("read() of " + text, x.read(), isGood ? text.length() / 2 : BAD_TEXT);
        }
    }
}

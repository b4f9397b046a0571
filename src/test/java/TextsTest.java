/** Promises 16 to 18: the pad. */
public final class TextsTest {
    private static final int BAD_VALUE = -2, BAD_TEXT = -3, TOO_MANY = -4, NONE = -6;

    public static void main(String[] args) {
        put();
        wipe();
        fault();
        Due.end();
    }

    private static void put() {
        StairBows x = new StairBows();
        long[] wrong = {0, 32, 127, 128, 255, 256, Due.text("u") << 8, Due.text("u") << 56, -1, Long.MIN_VALUE, Long.MAX_VALUE,
            Due.text("uu") << 16 | 'u', Due.text("u") << 32 | Due.text("uu"), Due.text(" u"), Due.text("u "), Due.text("u") << 8 | 200,
            Due.text("\177uuuuuuu"), Due.text("u\177uuuuuu"), 200L << 56 | Due.text("uuuuuuu")};
        for (long characters : wrong) {
            Due.is("put(" + characters + ")", x.put(characters), BAD_VALUE);
        }
        Due.is("nothing was appended", x.count(13), 0);
        Due.is("the lowest code", x.put(33), 1);
        Due.is("the highest code", x.put(126), 2);
        Due.is("it is no change", x.count(14), 0);
        x.wipe();
        Due.is("the first characters are the highest bits", x.put(Due.text("u1d2u3d4")), 8);
        Due.is("so there is no fault", x.fault(), NONE);
        Due.is("two more", x.put(Due.text("u5")), 10);
        Due.is("still none", x.fault(), NONE);
        for (int length = 18; length <= 58; length += 8) {
            Due.is("eight more", x.put(Due.text("u1d2u3d4")), length);
        }
        Due.is("three are too many", x.put(Due.text("u1d")), TOO_MANY);
        Due.is("a bad value comes first", x.put(32), BAD_VALUE);
        Due.is("two are not", x.put(Due.text("u1")), 60);
        Due.is("one is", x.put(Due.text("u")), TOO_MANY);
        Due.is("the length", x.count(13), 60);
        Due.is("a full pad has no fault", x.fault(), NONE);
        Due.is("30 people", x.read(), TOO_MANY);
    }

    private static void wipe() {
        StairBows x = new StairBows();
        Due.is("an empty pad", x.wipe(), 0);
        x.put(Due.text("u1d"));
        Due.is("three", x.wipe(), 3);
        Due.is("empty", x.count(13), 0);
        Due.is("once more", x.wipe(), 0);
        Due.is("it is no change", x.count(14), 0);
        x.put(Due.text("d3"));
        Due.is("the old text is gone", x.read(), 1);
        Due.is("the new one was read", x.person(0, 0), 3);
    }

    private static void fault() {
        String[] texts = {"", "u", "u1", "u1d", "u1d9", "u0", "u:", "ud", "1", "U1", "v1", "t1", "c1", "e1", "u1x", "u1u9d0d1", "u11", "uu1", "u1\"", "~"};
        int[] faults = {0, 1, NONE, 3, NONE, 1, 1, 1, 0, 0, 0, 0, 0, 0, 2, 5, 2, 1, 2, 0};
        for (int i = 0; i < texts.length; i++) {
            StairBows x = new StairBows();
            if (!texts[i].isEmpty()) {
                x.put(Due.text(texts[i]));
            }
            Due.is("the fault of " + texts[i], x.fault(), faults[i]);
            Due.is("read() of " + texts[i], x.read(), faults[i] == NONE ? texts[i].length() / 2 : BAD_TEXT);
        }
    }
}

/** Promises 1 to 7: a new object, and the changes. */
public final class ChangesTest {
    private static final int NO_SUCH = -1, BAD_VALUE = -2, BAD_TEXT = -3, TOO_MANY = -4, NOT_POSSIBLE = -5, NONE = -6;
    private static final int FAR_BELOW = Integer.MIN_VALUE, FAR_ABOVE = Integer.MAX_VALUE;

    public static void main(String[] args) {
        newObject();
        set();
        setHolds();
        landing();
        come();
        read();
        turn();
        pass();
        passManyTicks();
        Due.end();
    }

    private static void newObject() {
        StairBows x = new StairBows();
        Due.countsAre("a new object", x, 2, 1, 0, 0, 0, 0, 0, 0, 0, 1 << 4 | 1 << 8, 0, 0, 0, 0, 0);
        for (int step = 0; step < 12; step++) {
            boolean isLanding = step == 4 || step == 8;
            Due.is("a new object: step(" + step + ", 0)", x.step(step, 0), isLanding ? 1 : 0);
            Due.is("a new object: step(" + step + ", 1)", x.step(step, 1), 0);
            Due.is("a new object: step(" + step + ", 2)", x.step(step, 2), isLanding ? 2 : 1);
            Due.is("a new object: step(" + step + ", 3)", x.step(step, 3), NONE);
        }
        Due.is("a new object: undo()", x.undo(), NOT_POSSIBLE);
        Due.is("a new object: restore(0)", x.restore(0), NOT_POSSIBLE);
        Due.is("a new object: restore(1)", x.restore(1), NOT_POSSIBLE);
        Due.is("a new object: fault()", x.fault(), 0);
        Due.is("a new object: untilEmpty()", x.untilEmpty(), 0);
        new StairBows().come(3, true);
        Due.is("objects are apart", x.count(4), 0);
    }

    private static void set() {
        StairBows x = new StairBows();
        int[][] ranges = {{1, 4, 2}, {1, 5, 1}, {0, 9, 0}};
        for (int setting = 0; setting < 3; setting++) {
            int least = ranges[setting][0], greatest = ranges[setting][1], previous = ranges[setting][2];
            for (int wrong : new int[] {least - 1, greatest + 1, FAR_BELOW, FAR_ABOVE}) {
                Due.is("set(" + setting + ", " + wrong + ")", x.set(setting, wrong), BAD_VALUE);
            }
            for (int value = least; value <= greatest; value++) {
                Due.is("set(" + setting + ", " + value + ")", x.set(setting, value), previous);
                Due.is("count(" + setting + ")", x.count(setting), value);
                previous = value;
            }
            Due.is("set to the same", x.set(setting, greatest), greatest);
        }
        for (int setting : new int[] {-1, 3, FAR_BELOW, FAR_ABOVE}) {
            Due.is("set(" + setting + ", 1)", x.set(setting, 1), BAD_VALUE);
        }
        x = new StairBows();
        x.set(0, 5);
        Due.is("an error is no change", x.count(14), 0);
        x.set(0, 2);
        Due.is("the same value is a change", x.count(14), 1);
        Due.is("HOLDS", StairBows.HOLDS, 0);
        Due.is("BOWS", StairBows.BOWS, 1);
        Due.is("PATIENCE", StairBows.PATIENCE, 2);
    }

    private static void setHolds() {
        StairBows x = Scenes.threeOnLanding();
        Due.is("HOLDS 2 with three", x.set(0, 2), NOT_POSSIBLE);
        Due.is("HOLDS 1 with three", x.set(0, 1), NOT_POSSIBLE);
        Due.is("a bad value comes first", x.set(0, 0), BAD_VALUE);
        Due.is("errors change nothing", x.count(0), 4);
        Due.is("HOLDS 3 with three", x.set(0, 3), 4);
        Due.is("no more room", x.step(0, 2), 0);
        x.pass(1);
        Due.is("HOLDS 1 with one", x.set(0, 1), 3);
        x = Scenes.fullLanding(5, 3);
        Due.is("HOLDS 1 with two", x.set(0, 1), NOT_POSSIBLE);
        Due.is("HOLDS 2 with two", x.set(0, 2), 2);
        Due.is("two are a crowd", x.landing(4, false), NOT_POSSIBLE);
    }

    private static void landing() {
        StairBows x = new StairBows();
        for (int step : new int[] {-1, 12, FAR_BELOW, FAR_ABOVE}) {
            Due.is("landing(" + step + ", true)", x.landing(step, true), NO_SUCH);
            Due.is("landing(" + step + ", false)", x.landing(step, false), NO_SUCH);
        }
        Due.is("4 is one", x.landing(4, true), NOT_POSSIBLE);
        Due.is("3 is none", x.landing(3, false), NOT_POSSIBLE);
        Due.is("errors are no changes", x.count(14), 0);
        Due.is("landing(0, true)", x.landing(0, true), 3);
        Due.is("landing(11, true)", x.landing(11, true), 4);
        Due.is("landing(4, false)", x.landing(4, false), 3);
        Due.is("the set", x.count(9), 1 | 1 << 8 | 1 << 11);
        Due.is("changes", x.count(14), 3);
        x = Scenes.threeOnLanding();
        Due.is("a crowd", x.landing(0, false), NOT_POSSIBLE);
        x = new StairBows();
        x.come(2, true);
        x.pass(5);
        Due.is("one is no crowd", x.landing(4, false), 1);
        Due.is("and stays there", x.person(0, 3), 4);
        Due.is("and fills the step", x.step(4, 2), 0);
        Due.is("which can be a landing again", x.landing(4, true), 2);
        for (int step = 0; step < 12; step++) {
            x.landing(step, true);
        }
        Due.is("all are landings", x.count(9), 4095);
    }

    private static void come() {
        StairBows x = new StairBows();
        for (int rank : new int[] {0, 10, FAR_BELOW, FAR_ABOVE}) {
            Due.is("come(" + rank + ", true)", x.come(rank, true), BAD_VALUE);
        }
        for (int number = 0; number < 24; number++) {
            int rank = 1 + number % 9;
            Due.is("come", x.come(rank, number % 2 == 0), number);
            Due.is("its rank", x.person(number, 0), rank);
            Due.is("its way", x.person(number, 1), 1 - number % 2);
            Due.is("in a hall", x.person(number, 2), 0);
            Due.is("on no step", x.person(number, 3), NONE);
        }
        Due.is("the 25th", x.come(1, true), TOO_MANY);
        Due.is("a bad rank first", x.come(0, true), BAD_VALUE);
        x.pass(99);
        Due.is("who has arrived keeps the number", x.come(1, true), TOO_MANY);
        Due.is("all in halls or elsewhere", x.count(5) + x.count(6) + x.count(7) + x.count(8), 24);
    }

    private static void read() {
        StairBows x = new StairBows();
        Due.is("read() of an empty pad", x.read(), BAD_TEXT);
        x.put(Due.text("u9d1"));
        Due.is("read()", x.read(), 2);
        Due.is("the pad is emptied", x.count(13), 0);
        Due.is("rank 0", x.person(0, 0), 9);
        Due.is("way 0", x.person(0, 1), 1);
        Due.is("rank 1", x.person(1, 0), 1);
        Due.is("way 1", x.person(1, 1), 0);
        Due.is("one change", x.count(14), 1);
        x.put(Due.text("u9d"));
        Due.is("read() of a text that ends early", x.read(), BAD_TEXT);
        Due.is("the pad is kept", x.count(13), 3);
        x.put(Due.text("5"));
        Due.is("read() once more", x.read(), 4);
        Due.is("undo()", x.undo(), 1);
        Due.is("undone", x.count(4), 2);
        Due.is("the pad stays empty", x.count(13), 0);
        for (int i = 0; i < 5; i++) {
            x.put(Due.text("u1u2u3u4"));
        }
        x.put(Due.text("d5d6d7"));
        Due.is("23 more", x.read(), TOO_MANY);
        Due.is("nobody came", x.count(4), 2);
        Due.is("the pad is kept too", x.count(13), 46);
        x.put(Due.text("?"));
        Due.is("a fault comes first", x.read(), BAD_TEXT);
        x.wipe();
        for (int i = 0; i < 5; i++) {
            x.put(Due.text("u1u2u3u4"));
        }
        x.put(Due.text("d5d6"));
        Due.is("22 more", x.read(), 24);
        Due.is("the last", x.person(23, 0), 6);
        x.put(Due.text("u1"));
        Due.is("one more", x.read(), TOO_MANY);
    }

    private static void turn() {
        StairBows x = new StairBows();
        Due.is("nobody there", x.turn(0), NO_SUCH);
        x.come(4, true);
        for (int person : new int[] {-1, 1, FAR_BELOW, FAR_ABOVE}) {
            Due.is("turn(" + person + ")", x.turn(person), NO_SUCH);
        }
        Due.is("in the hall", x.turn(0), NOT_POSSIBLE);
        Due.is("no change", x.count(14), 1);
        x.pass(3);
        Due.is("turn(0)", x.turn(0), 0);
        Due.is("its way", x.person(0, 1), 0);
        Due.is("turn(0) again", x.turn(0), 1);
        Due.is("once more", x.turn(0), 0);
        Due.is("pass(2)", x.pass(2), 0);
        Due.is("on 0", x.person(0, 3), 0);
        Due.is("to the lower hall", x.pass(1), 1);
        Due.is("arrived there", x.person(0, 2), 2);
        Due.is("arrived: no turn", x.turn(0), NOT_POSSIBLE);
        turnKeepsStay();
    }

    private static void turnKeepsStay() {
        StairBows x = new StairBows();
        x.set(2, 9);
        x.come(5, true);
        x.come(5, false);
        x.landing(4, false);
        x.landing(8, false);
        x.pass(8);
        Due.is("up stays", x.person(0, 8), 2);
        x.turn(0);
        Due.is("the stay is kept", x.person(0, 8), 2);
        x.pass(1);
        Due.is("and ends by another deed", x.person(0, 8), 0);
        Due.is("the waits do not", x.person(0, 4), 2);
    }

    private static void pass() {
        StairBows x = new StairBows();
        for (int ticks : new int[] {0, -1, 100, FAR_BELOW, FAR_ABOVE}) {
            Due.is("pass(" + ticks + ")", x.pass(ticks), BAD_VALUE);
        }
        x.come(3, true);
        x.come(4, false);
        x.landing(6, true);
        for (int tick = 0; tick < 6; tick++) {
            Due.is("nobody arrives", x.pass(1), 0);
            Due.is("up", x.person(0, 3), tick);
            Due.is("down", x.person(1, 3), 11 - tick);
        }
        x = new StairBows();
        x.come(3, true);
        Due.is("12 ticks", x.pass(12), 0);
        Due.is("on 11", x.person(0, 3), 11);
        Due.is("the 13th", x.pass(1), 1);
        Due.is("the 14th", x.pass(1), 0);
        Due.is("ticks", x.count(3), 14);
        x = new StairBows();
        x.come(3, false);
        x.come(3, false);
        Due.is("both arrive", x.pass(99), 2);
        Due.is("one tick apart", x.person(1, 7) - x.person(0, 7), 1);
        Due.is("the first behind the 13th tick", x.person(0, 7), 13);
    }

    private static void passManyTicks() {
        StairBows x = new StairBows();
        for (int i = 0; i < 100; i++) {
            Due.is("pass(99)", x.pass(99), 0);
        }
        Due.is("9900 ticks", x.count(3), 9900);
        Due.is("to 9998", x.pass(98), 0);
        Due.is("to 10000", x.pass(2), TOO_MANY);
        Due.is("far above", x.pass(99), TOO_MANY);
        Due.is("a bad value first", x.pass(100), BAD_VALUE);
        Due.is("still 9998", x.count(3), 9998);
        Due.is("to 9999", x.pass(1), 0);
        Due.is("one more", x.pass(1), TOO_MANY);
        Due.is("9999 ticks", x.count(3), 9999);
        x.come(5, true);
        Due.is("what if has no such bound", x.untilArrived(0), 13);
        Due.is("nor this", x.ifPassed(200, 0), 1);
        Due.is("nor this one", x.untilEmpty(), 13);
        Due.is("nor that", x.does(0), 1);
    }
}

/** Promises 1 to 7: a new object, and the changes. */
public final class ChangesTest {
    private static final String NEW = "Promise 1", SET = "Promise 2", LANDING = "Promise 3", COME = "Promise 4", READ = "Promise 5",
        TURN = "Promise 6", PASS = "Promise 7";
    private static final int NO_SUCH = -1, BAD_VALUE = -2, BAD_TEXT = -3, TOO_MANY = -4, NOT_POSSIBLE = -5, NONE = -6;
    private static final int FAR_BELOW = Integer.MIN_VALUE, FAR_ABOVE = Integer.MAX_VALUE;

    public static void main(String[] args) {
        newIsEmpty();
        newAtTheTickZero();
        setNoSuchSetting();
        setOutOfRange();
        setPreviousValue();
        setHoldsWhereMoreStand();
        setHoldsOnAnyLanding();
        setOthersWhereMoreStand();
        setIsAChange();
        landingMakesAndUnmakes();
        landingHowMany();
        landingNoSuchStep();
        landingIsSoAlready();
        landingWhereMoreThanOneStand();
        comeIntoAHall();
        comeReturnsTheNumber();
        comeBehindOthersWhoAreUndone();
        comeRankOutOfRange();
        comeWhereThereWere24();
        comeWhereManyAreGone();
        readOneAfterTheOther();
        readEmptiesThePad();
        readIsOneChange();
        readWithAFault();
        readMoreThan24();
        readAFullPad();
        turnGoesTheOtherWay();
        turnOnTheLastSteps();
        turnKeepsTheStay();
        turnIsAChange();
        turnNoSuchPerson();
        turnNotOnAStep();
        passTicks();
        passArrivals();
        passOutOfRange();
        passAbove9999();
        passFarArgumentsAt9999();
        Due.end();
    }

    // ---- promise 1

    private static void newIsEmpty() {
        Due.of(NEW, "Creates an empty staircase");
        StairBows x = new StairBows();
        Due.countsAre("a new object", x, 2, 1, 0, 0, 0, 0, 0, 0, 0, 1 << 4 | 1 << 8, 0, 0, 0, 0, 0);
        for (int step = 0; step < 12; step++) {
            boolean isLanding = step == 4 || step == 8;
            Due.is("step(" + step + ", 0)", x.step(step, 0), isLanding ? 1 : 0);
            Due.is("step(" + step + ", 1)", x.step(step, 1), 0);
            Due.is("step(" + step + ", 2)", x.step(step, 2), isLanding ? 2 : 1);
            Due.is("step(" + step + ", 3)", x.step(step, 3), NONE);
        }
        Due.is("person(0, 0)", x.person(0, 0), NO_SUCH);
        Due.is("undo()", x.undo(), NOT_POSSIBLE);
        Due.is("restore(0)", x.restore(0), NOT_POSSIBLE);
        Due.is("restore(1)", x.restore(1), NOT_POSSIBLE);
        Due.is("fault()", x.fault(), 0);
        Due.is("untilEmpty()", x.untilEmpty(), 0);
        new StairBows().come(3, true);
        Due.is("another object has nothing to do with it", x.count(4), 0);
    }

    private static void newAtTheTickZero() {
        Due.of(NEW, "at the tick 0");
        Due.is("count(3)", new StairBows().count(3), 0);
        Due.is("save(0)", new StairBows().save(0), 0);
    }

    // ---- promise 2

    private static void setNoSuchSetting() {
        Due.of(SET, "BAD_VALUE if there is no such setting");
        StairBows x = new StairBows();
        for (int setting : new int[] {-1, 3, FAR_BELOW, FAR_ABOVE}) {
            Due.is("set(" + setting + ", 1)", x.set(setting, 1), BAD_VALUE);
        }
    }

    private static void setOutOfRange() {
        Due.of(SET, "BAD_VALUE if [..] value is out of its range");
        int[][] ranges = {{1, 4}, {1, 5}, {0, 9}};
        for (int setting = 0; setting < 3; setting++) {
            StairBows x = new StairBows();
            int least = ranges[setting][0], greatest = ranges[setting][1];
            for (int wrong : new int[] {least - 1, greatest + 1, FAR_BELOW, FAR_ABOVE}) {
                Due.is("set(" + setting + ", " + wrong + ")", x.set(setting, wrong), BAD_VALUE);
            }
            Due.isTrue("set(" + setting + ", " + least + ")", x.set(setting, least) >= 0);
            Due.isTrue("set(" + setting + ", " + greatest + ")", x.set(setting, greatest) >= 0);
        }
    }

    private static void setPreviousValue() {
        Due.of(SET, "Changes a setting. [..] Returns the previous value");
        int[][] ranges = {{1, 4, 2}, {1, 5, 1}, {0, 9, 0}};
        StairBows x = new StairBows();
        for (int setting = 0; setting < 3; setting++) {
            int previous = ranges[setting][2];
            for (int value = ranges[setting][0]; value <= ranges[setting][1]; value++) {
                Due.is("set(" + setting + ", " + value + ")", x.set(setting, value), previous);
                Due.is("count(" + setting + ")", x.count(setting), value);
                previous = value;
            }
        }
        Due.countsAre("all are changed", x, 4, 5, 9);
    }

    private static void setHoldsWhereMoreStand() {
        Due.of(SET, "NOT_POSSIBLE for HOLDS, if more stand on a landing.");
        int[][] crowds = {{3}, {3, 3}, {3, 3, 3}, {3, 3, 3, 3}};
        for (int[] crowd : crowds) {
            for (int holds = 1; holds <= 4; holds++) {
                StairBows x = Scenes.facingCrowd(9, crowd);
                boolean isPossible = holds >= crowd.length;
                String call = "set(0, " + holds + "), where " + crowd.length + " stand";
                Due.is(call, x.set(0, holds), isPossible ? crowd.length : NOT_POSSIBLE);
                Due.is(call + ": count(0)", x.count(0), isPossible ? holds : crowd.length);
                Due.is(call + ": room", x.step(4, 2), isPossible ? holds - crowd.length : 0);
            }
        }
    }

    private static void setHoldsOnAnyLanding() {
        Due.of(SET, "NOT_POSSIBLE for HOLDS, if more stand on a landing.", "on any, and only on steps");
        for (boolean goesUp : new boolean[] {true, false}) {
            StairBows x = Scenes.stairsOfLandings();
            Due.is("with nobody there", x.set(0, 1), 2);
            x.set(0, 2);
            x.come(5, goesUp);
            x.come(5, goesUp);
            Due.is("with two in a hall", x.set(0, 1), 2);
            x.set(0, 2);
            for (int tick = 1; tick <= 12; tick++) {
                x.pass(1);
                Due.is("with two on a step, at the tick " + tick, x.set(0, 1), NOT_POSSIBLE);
            }
            x.pass(1);
            Due.is("with two who have arrived", x.set(0, 1), 2);
        }
    }

    private static void setOthersWhereMoreStand() {
        Due.of(SET, "NOT_POSSIBLE for HOLDS", "and for no other setting");
        StairBows x = Scenes.facingCrowd(9, 3, 3, 3, 3);
        Due.is("set(1, 2), where 4 stand", x.set(1, 2), 1);
        Due.is("set(1, 1), where 4 stand", x.set(1, 1), 2);
        Due.is("set(2, 1), where 4 stand", x.set(2, 1), 0);
        Due.is("set(2, 0), where 4 stand", x.set(2, 0), 1);
    }

    private static void setIsAChange() {
        Due.of(SET, "This is a change.");
        StairBows x = new StairBows();
        x.set(0, 5);
        Due.is("an error is none", x.count(14), 0);
        x.set(0, 2);
        Due.is("the same value is one", x.count(14), 1);
        x.set(1, 5);
        Due.is("undo()", x.undo(), 1);
        Due.countsAre("undone", x, 2, 1, 0);
    }

    // ---- promise 3

    private static void landingMakesAndUnmakes() {
        Due.of(LANDING, "Makes a step a landing, or an ordinary step. This is a change.");
        StairBows x = new StairBows();
        x.landing(0, true);
        x.landing(11, true);
        x.landing(4, false);
        Due.is("the set", x.count(9), 1 | 1 << 8 | 1 << 11);
        Due.is("room on 0", x.step(0, 2), 2);
        Due.is("room on 4", x.step(4, 2), 1);
        Due.is("three changes", x.count(14), 3);
        x.undo();
        Due.is("undone", x.count(9), 1 | 1 << 4 | 1 << 8 | 1 << 11);
    }

    private static void landingHowMany() {
        Due.of(LANDING, "Returns how many landings there are then");
        StairBows x = Scenes.stairsWithout(4);
        Due.is("none are left", x.landing(8, false), 0);
        for (int step = 0; step < 12; step++) {
            Due.is("landing(" + step + ", true)", x.landing(step, true), step + 1);
        }
        Due.is("all twelve", x.count(9), 4095);
        for (int step = 11; step >= 0; step--) {
            Due.is("landing(" + step + ", false)", x.landing(step, false), step);
        }
        Due.is("none", x.count(9), 0);
    }

    private static void landingNoSuchStep() {
        Due.of(LANDING, "NO_SUCH if there is no such step");
        StairBows x = new StairBows();
        for (int step : new int[] {-1, 12, 31, 32, 36, -28, FAR_BELOW, FAR_ABOVE}) {
            Due.is("landing(" + step + ", true)", x.landing(step, true), NO_SUCH);
            Due.is("landing(" + step + ", false)", x.landing(step, false), NO_SUCH);
        }
        Due.is("the set", x.count(9), 1 << 4 | 1 << 8);
    }

    private static void landingIsSoAlready() {
        Due.of(LANDING, "NOT_POSSIBLE if it is so already");
        StairBows x = new StairBows();
        for (int step = 0; step < 12; step++) {
            boolean isLanding = step == 4 || step == 8;
            Due.is("landing(" + step + ", " + isLanding + ")", x.landing(step, isLanding), NOT_POSSIBLE);
        }
        Due.is("no change", x.count(14), 0);
        x.landing(0, true);
        Due.is("once more", x.landing(0, true), NOT_POSSIBLE);
        x.landing(0, false);
        Due.is("once more an ordinary step", x.landing(0, false), NOT_POSSIBLE);
    }

    private static void landingWhereMoreThanOneStand() {
        Due.of(LANDING, "NOT_POSSIBLE if [..] more than one stand there.");
        int[][] crowds = {{3}, {3, 3}, {3, 3, 3}, {3, 3, 3, 3}};
        for (int[] crowd : crowds) {
            StairBows x = Scenes.facingCrowd(9, crowd);
            boolean isPossible = crowd.length == 1;
            Due.is("landing(4, false), where " + crowd.length + " stand", x.landing(4, false), isPossible ? 9 : NOT_POSSIBLE);
            Due.is("they stay there", x.step(4, 1), crowd.length);
            Due.is("on a landing", x.step(4, 0), isPossible ? 0 : 1);
            Due.is("landing(5, false), where nobody stands", x.landing(5, false), isPossible ? 8 : 9);
        }
        StairBows x = Scenes.facingCrowd(9, 3);
        x.landing(4, false);
        Due.is("a full step can be made a landing", x.landing(4, true), 10);
    }

    // ---- promise 4

    private static void comeIntoAHall() {
        Due.of(COME, "A person comes into a hall. This is a change.");
        StairBows x = new StairBows();
        x.come(1, true);
        x.come(9, false);
        Due.personIs("up", x, 0, 1, 1, 0, NONE, 0, 0, 0, NONE, 0);
        Due.personIs("down", x, 1, 9, 0, 0, NONE, 0, 0, 0, NONE, 0);
        Due.is("two in halls", x.count(5), 2);
        Due.is("two changes", x.count(14), 2);
        x.undo();
        Due.is("one is left", x.count(4), 1);
        Due.is("the other one is nobody", x.person(1, 0), NO_SUCH);
        Due.is("the next one has its number", x.come(4, true), 1);
        Due.personIs("and nothing else of it", x, 1, 4, 1, 0, NONE, 0, 0, 0, NONE, 0);
    }

    private static void comeReturnsTheNumber() {
        Due.of(COME, "Returns the number");
        StairBows x = new StairBows();
        Due.is("the first", x.come(9, false), 0);
        Due.is("the second", x.come(1, true), 1);
        x.pass(99);
        Due.is("the third, where two have arrived", x.come(5, true), 2);
        x.put(Due.text("u1d2"));
        x.read();
        Due.is("behind two who were read", x.come(5, true), 5);
    }

    private static void comeBehindOthersWhoAreUndone() {
        Due.of(COME, "A person comes into a hall.", "with nothing of others, who had its number");
        StairBows x = Scenes.stairsWithout(4, 8);
        x.save(0);
        x.come(2, true);
        x.come(7, false);
        x.pass(7);
        x.come(1, true);
        x.come(1, true);
        x.pass(1);
        Due.personIs("one who bowed", x, 0, 2, 1, 1, 3, 0, 2, 12, NONE, 0);
        Due.personIs("one who stays", x, 3, 1, 1, 0, NONE, 1, 0, 0, NONE, 1);
        x.restore(0);
        for (int number = 0; number < 4; number++) {
            x.come(4, false);
            Due.personIs("a new one", x, number, 4, 0, 0, NONE, 0, 0, 0, NONE, 0);
        }
        x.restore(0);
        x.put(Due.text("u4u4u4u4"));
        x.read();
        for (int number = 0; number < 4; number++) {
            Due.personIs("one who was read", x, number, 4, 1, 0, NONE, 0, 0, 0, NONE, 0);
        }
    }

    private static void comeRankOutOfRange() {
        Due.of(COME, "BAD_VALUE if rank is out of range", "1 to 9");
        StairBows x = new StairBows();
        for (int rank : new int[] {0, 10, -1, FAR_BELOW, FAR_ABOVE}) {
            Due.is("come(" + rank + ", true)", x.come(rank, true), BAD_VALUE);
            Due.is("come(" + rank + ", false)", x.come(rank, false), BAD_VALUE);
        }
        Due.is("nobody came", x.count(4), 0);
        for (int rank = 1; rank <= 9; rank++) {
            Due.is("come(" + rank + ", true)", x.come(rank, true), rank - 1);
        }
    }

    private static void comeWhereThereWere24() {
        Due.of(COME, "TOO_MANY if there were 24.");
        StairBows x = Scenes.crowdOf(23);
        Due.is("the 24th", x.come(1, true), 23);
        Due.is("the 25th", x.come(1, true), TOO_MANY);
        Due.is("the 25th, down", x.come(9, false), TOO_MANY);
        Due.is("24 are there", x.count(4), 24);
        Due.is("no 25th person", x.person(24, 0), NO_SUCH);
        x.undo();
        Due.is("another 24th", x.come(2, false), 23);
    }

    private static void comeWhereManyAreGone() {
        Due.of(COME, "TOO_MANY if there were 24.", "wherever they are");
        StairBows x = Scenes.crowdOf(24);
        x.pass(12);
        Due.is("some on steps", x.come(1, true), TOO_MANY);
        x.pass(99);
        Due.is("all have arrived", x.count(7), 24);
        Due.is("which does not matter", x.come(1, true), TOO_MANY);
    }

    // ---- promise 5

    private static void readOneAfterTheOther() {
        Due.of(READ, "The people of the pad come, one after the other [..]. Returns how many people there are then");
        StairBows x = new StairBows();
        x.come(5, true);
        x.put(Due.text("u9d1u5"));
        Due.is("read()", x.read(), 4);
        Due.personIs("the first", x, 1, 9, 1, 0, NONE, 0, 0, 0, NONE, 0);
        Due.personIs("the second", x, 2, 1, 0, 0, NONE, 0, 0, 0, NONE, 0);
        Due.personIs("the third", x, 3, 5, 1, 0, NONE, 0, 0, 0, NONE, 0);
        x.put(Due.text("d9"));
        Due.is("read() of one", x.read(), 5);
        Due.is("its rank", x.person(4, 0), 9);
        Due.is("its way", x.person(4, 1), 0);
    }

    private static void readEmptiesThePad() {
        Due.of(READ, "and the pad is emptied");
        StairBows x = new StairBows();
        x.put(Due.text("u9d1"));
        x.read();
        Due.is("its length", x.count(13), 0);
        Due.is("wipe()", x.wipe(), 0);
        Due.is("read() once more", x.read(), BAD_TEXT);
        Due.is("put() begins at the beginning", x.put('u'), 1);
    }

    private static void readIsOneChange() {
        Due.of(READ, "This is a change.");
        StairBows x = new StairBows();
        x.put(Due.text("u9d1"));
        x.read();
        Due.is("one change for all who came", x.count(14), 1);
        Due.is("undo()", x.undo(), 0);
        Due.is("nobody is there", x.count(4), 0);
        Due.is("the pad stays empty", x.count(13), 0);
    }

    private static void readWithAFault() {
        Due.of(READ, "BAD_TEXT if the pad has a fault");
        for (String text : new String[] {"", "u", "u9d", "u0", "9u", "u9d1x", "x", "u9u"}) {
            StairBows x = new StairBows();
            Due.putAll(x, text);
            Due.is("read() of " + text, x.read(), BAD_TEXT);
            Due.is("nobody came", x.count(4), 0);
            Due.is("the pad is as it was", x.count(13), text.length());
            Due.is("no change", x.count(14), 0);
        }
    }

    private static void readMoreThan24() {
        Due.of(READ, "TOO_MANY if there would be more than 24.");
        for (int there = 20; there <= 24; there++) {
            StairBows x = Scenes.crowdOf(there);
            int room = 24 - there;
            Due.putAll(x, "d2".repeat(room + 1));
            Due.is("one more than there is room for, with " + there, x.read(), TOO_MANY);
            Due.is("nobody came", x.count(4), there);
            Due.is("the pad is as it was", x.wipe(), 2 * room + 2);
            if (room > 0) {
                Due.putAll(x, "d2".repeat(room));
                Due.is("as many as there is room for, with " + there, x.read(), 24);
            }
        }
    }

    private static void readAFullPad() {
        Due.of(READ, "TOO_MANY if there would be more than 24.", "of the pad alone");
        StairBows x = new StairBows();
        Due.is("25 people", Due.putAll(x, "u1".repeat(25)), 50);
        Due.is("read()", x.read(), TOO_MANY);
        x.wipe();
        Due.is("30 people", Due.putAll(x, "u1".repeat(30)), 60);
        Due.is("read()", x.read(), TOO_MANY);
        x.wipe();
        Due.is("24 people", Due.putAll(x, "u1".repeat(23) + "d7"), 48);
        Due.is("read()", x.read(), 24);
        Due.is("the last one", x.person(23, 0), 7);
    }

    // ---- promise 6

    private static void turnGoesTheOtherWay() {
        Due.of(TURN, "A person on a step turns around: goes the other way from now on [..]. Returns 1 if the person goes up then, otherwise 0");
        StairBows x = new StairBows();
        x.come(4, true);
        x.pass(3);
        Due.is("turn(0)", x.turn(0), 0);
        Due.is("its way", x.person(0, 1), 0);
        Due.is("turn(0) again", x.turn(0), 1);
        Due.is("its way again", x.person(0, 1), 1);
        Due.is("once more", x.turn(0), 0);
        Due.is("four changes and one before", x.count(14), 5);
        x.pass(1);
        Due.stepsAre("it goes down", x, 1);
        x.undo();
        x.undo();
        x.pass(1);
        Due.stepsAre("without the last turn it goes up", x, 3);
    }

    private static void turnOnTheLastSteps() {
        Due.of(TURN, "A person on a step turns around", "on the lowest and the highest");
        for (boolean goesUp : new boolean[] {true, false}) {
            StairBows x = new StairBows();
            x.come(4, goesUp);
            x.pass(1);
            Due.is("on the first step", x.turn(0), goesUp ? 0 : 1);
            Due.is("it arrives in the hall from which it came", x.pass(1), 1);
            x = new StairBows();
            x.come(4, goesUp);
            x.pass(12);
            Due.is("on the last step", x.turn(0), goesUp ? 0 : 1);
            Due.is("it goes all the way back", x.untilArrived(0), 12);
        }
    }

    private static void turnKeepsTheStay() {
        Due.of(TURN, "(in how many ticks it stayed just now does not change by that)");
        StairBows x = Scenes.meeting(5, 5);
        x.set(2, 9);
        x.pass(2);
        Due.is("up stayed", x.person(0, 8), 2);
        x.turn(0);
        Due.is("the stay is kept", x.person(0, 8), 2);
        x.turn(0);
        Due.is("by another turn, too", x.person(0, 8), 2);
        x.set(2, 2);
        Due.is("it counts for the patience", x.does(1), 1);
        x.turn(0);
        x.pass(1);
        Due.is("and ends by another deed", x.person(0, 8), 0);
        Due.is("the waits do not", x.person(0, 4), 2);
    }

    private static void turnIsAChange() {
        Due.of(TURN, "This is a change.");
        StairBows x = new StairBows();
        x.come(4, true);
        x.pass(3);
        x.turn(0);
        Due.is("three changes", x.count(14), 3);
        Due.is("undo()", x.undo(), 2);
        Due.is("its way", x.person(0, 1), 1);
        x.turn(1);
        Due.is("an error is none", x.count(14), 2);
    }

    private static void turnNoSuchPerson() {
        Due.of(TURN, "NO_SUCH if there is no such person");
        StairBows x = new StairBows();
        Due.is("turn(0) of nobody", x.turn(0), NO_SUCH);
        x.come(4, true);
        for (int person : new int[] {-1, 1, 23, 24, FAR_BELOW, FAR_ABOVE}) {
            Due.is("turn(" + person + ")", x.turn(person), NO_SUCH);
        }
        x = Scenes.crowdOf(24);
        Due.is("turn(24)", x.turn(24), NO_SUCH);
        Due.is("turn(23)", x.turn(23), NOT_POSSIBLE);
    }

    private static void turnNotOnAStep() {
        Due.of(TURN, "NOT_POSSIBLE if it does not stand on a step.");
        for (boolean goesUp : new boolean[] {true, false}) {
            StairBows x = new StairBows();
            x.come(4, goesUp);
            Due.is("in the hall", x.turn(0), NOT_POSSIBLE);
            Due.is("it is no change", x.count(14), 1);
            x.pass(13);
            Due.is("arrived", x.turn(0), NOT_POSSIBLE);
            Due.is("its way", x.person(0, 1), goesUp ? 1 : 0);
        }
        StairBows x = Scenes.lowOneAtTheBottom();
        x.pass(1);
        Due.is("sent off", x.turn(1), NOT_POSSIBLE);
        Due.is("on a step", x.turn(0), 1);
    }

    // ---- promise 7

    private static void passTicks() {
        Due.of(PASS, "Lets ticks pass. This is a change.", "ticks: 1 to 99");
        for (int ticks = 1; ticks <= 99; ticks++) {
            StairBows x = new StairBows();
            x.come(3, false);
            Due.is("pass(" + ticks + ")", x.pass(ticks), ticks >= 13 ? 1 : 0);
            Due.is("the ticks", x.count(3), ticks);
            Due.stepsAre("behind them", x, ticks <= 12 ? 12 - ticks : NONE);
            Due.is("one change", x.undo(), 1);
            Due.is("undone", x.count(3), 0);
        }
    }

    private static void passArrivals() {
        Due.of(PASS, "Returns how many people arrive in them");
        StairBows x = new StairBows();
        x.come(3, true);
        x.come(3, true);
        x.come(3, true);
        Due.is("nobody in 12 ticks", x.pass(12), 0);
        Due.is("one in the 13th", x.pass(1), 1);
        Due.is("one more, not both who have", x.pass(1), 1);
        x.undo();
        Due.is("two more", x.pass(99), 2);
        Due.is("nobody is left", x.pass(99), 0);
        x = Scenes.lowOneAtTheBottom();
        Due.is("one sent off does not arrive", x.pass(1), 0);
    }

    private static void passOutOfRange() {
        Due.of(PASS, "BAD_VALUE if ticks is out of range");
        StairBows x = new StairBows();
        for (int ticks : new int[] {0, -1, 100, FAR_BELOW, FAR_ABOVE}) {
            Due.is("pass(" + ticks + ")", x.pass(ticks), BAD_VALUE);
        }
        Due.is("no tick passed", x.count(3), 0);
        Due.is("no change", x.count(14), 0);
    }

    private static void passAbove9999() {
        Due.of(PASS, "TOO_MANY if the ticks would be above 9999.");
        StairBows x = Scenes.atTheTick(9900);
        x.pass(98);
        Due.is("the ticks", x.count(3), 9998);
        Due.is("to 10000", x.pass(2), TOO_MANY);
        Due.is("far above", x.pass(99), TOO_MANY);
        Due.is("still", x.count(3), 9998);
        Due.is("to 9999", x.pass(1), 0);
        Due.is("the ticks then", x.count(3), 9999);
        Due.is("one more", x.pass(1), TOO_MANY);
        x.undo();
        x.undo();
        Due.is("99 ticks to 9999", x.pass(99), 0);
        Due.is("the ticks again", x.count(3), 9999);
        x.come(5, true);
        Due.is("what if has no such bound", x.untilArrived(0), 13);
        Due.is("nor this one", x.ifPassed(200, 0), 1);
        Due.is("nor this", x.untilEmpty(), 13);
        Due.is("nor that", x.does(0), 1);
    }

    private static void passFarArgumentsAt9999() {
        Due.of(PASS, "BAD_VALUE if ticks is out of range", "at the tick 9999, where a sum would wrap around");
        StairBows x = Scenes.atTheTick(9999);
        Due.is("pass(2147483647)", x.pass(FAR_ABOVE), BAD_VALUE);
        Due.is("pass(-2147483648)", x.pass(FAR_BELOW), BAD_VALUE);
        Due.is("pass(-9999)", x.pass(-9999), BAD_VALUE);
        Due.is("the ticks", x.count(3), 9999);
    }
}

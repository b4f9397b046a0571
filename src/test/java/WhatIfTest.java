/** Promises 12 to 15: what if. */
public final class WhatIfTest {
    private static final String ARRIVED = "Promise 12", EMPTY = "Promise 13", IF_PASSED = "Promise 14", BEST = "Promise 15";
    private static final int NO_SUCH = -1, BAD_VALUE = -2, NONE = -6;
    private static final int FAR_BELOW = Integer.MIN_VALUE, FAR_ABOVE = Integer.MAX_VALUE;

    public static void main(String[] args) {
        arrivedNoSuchPerson();
        arrivedHasAlready();
        arrivedBehindHowMany();
        arrivedNotWithin200();
        arrivedNever();
        emptyNobodyIs();
        emptyBehindHowMany();
        emptyNotWithin200();
        emptyNever();
        ifPassedTicksOutOfRange();
        ifPassedWhatOutOfRange();
        ifPassedArrivals();
        ifPassedSentOff();
        ifPassedBows();
        ifPassedWaits();
        ifPassedOneAndTwoHundred();
        bestAllAreLandings();
        bestOfThoseThatAreNoneNow();
        bestOfSeveralTheLowest();
        bestFewestBows();
        bestInFiftyTicks();
        bestOnTheLastSteps();
        Due.end();
    }

    // ---- promise 12

    private static void arrivedNoSuchPerson() {
        Due.of(ARRIVED, "NO_SUCH if there is no such person");
        StairBows x = new StairBows();
        Due.is("untilArrived(0) of nobody", x.untilArrived(0), NO_SUCH);
        x.come(5, true);
        for (int person : new int[] {-1, 1, 23, 24, FAR_BELOW, FAR_ABOVE}) {
            Due.is("untilArrived(" + person + ")", x.untilArrived(person), NO_SUCH);
        }
        x = Scenes.crowdOf(24);
        Due.is("the last of 24", x.untilArrived(23), 36);
        Due.is("none behind the last of 24", x.untilArrived(24), NO_SUCH);
    }

    private static void arrivedHasAlready() {
        Due.of(ARRIVED, "Returns how many, 0 if it has");
        StairBows x = Scenes.crowdOf(2);
        x.pass(12);
        Due.is("in the next tick", x.untilArrived(0), 1);
        x.pass(1);
        Due.is("it has", x.untilArrived(0), 0);
        Due.is("the other one has not", x.untilArrived(1), 1);
        x.pass(99);
        Due.is("long ago", x.untilArrived(0), 0);
    }

    private static void arrivedBehindHowMany() {
        Due.of(ARRIVED, "Tells behind how many ticks a person has arrived, if nothing else is done.");
        for (boolean goesUp : new boolean[] {true, false}) {
            StairBows x = new StairBows();
            x.come(5, goesUp);
            for (int left = 13; left >= 1; left--) {
                Due.is("untilArrived(0)", x.untilArrived(0), left);
                x.pass(1);
            }
        }
        Due.is("who is not disturbed", Scenes.meeting(7, 2).untilArrived(0), 7);
    }

    /** Much patience and full landings: the last one (11) arrives behind the tick 207, and then nobody is on the way. */
    private static StairBows aLongWay(int ticks) {
        StairBows x = Scenes.stairsWithout(8);
        x.landing(0, true);
        x.landing(11, true);
        x.set(StairBows.HOLDS, 3);
        x.set(StairBows.PATIENCE, 9);
        Due.putAll(x, "d8d5d4d2d1d3u3d2d3u5d5u1");
        x.read();
        x.pass(ticks);
        return x;
    }

    private static void arrivedNotWithin200() {
        Due.of(ARRIVED, "NONE if it has not within 200.");
        Due.is("behind 201", aLongWay(6).untilArrived(11), NONE);
        Due.is("behind 200", aLongWay(7).untilArrived(11), 200);
        Due.is("behind 199", aLongWay(8).untilArrived(11), 199);
        StairBows x = aLongWay(6);
        x.pass(99);
        x.pass(99);
        Due.is("it is behind 201", x.untilArrived(11), 3);
        x.pass(2);
        Due.is("not behind 200", x.person(11, 2), 1);
        Due.is("in the next", x.pass(1), 1);
        Due.is("arrived", x.person(11, 2), 2);
    }

    private static void arrivedNever() {
        Due.of(ARRIVED, "NONE if it has not within 200.", "sent off, or held for ever");
        StairBows x = Scenes.lowOneAtTheBottom();
        Due.is("it will be sent off", x.untilArrived(1), NONE);
        x.pass(1);
        Due.is("it was sent off", x.untilArrived(1), NONE);
        x = new StairBows();
        Scenes.jam(x);
        for (int number = 0; number < 3; number++) {
            Due.is(number + " is held", x.untilArrived(number), NONE);
        }
    }

    // ---- promise 13

    private static void emptyNobodyIs() {
        Due.of(EMPTY, "Returns how many, 0 if nobody is");
        StairBows x = new StairBows();
        Due.is("nobody came", x.untilEmpty(), 0);
        x.come(5, true);
        Due.is("one in a hall", x.untilEmpty(), 13);
        x.pass(12);
        Due.is("one on the last step", x.untilEmpty(), 1);
        x.pass(1);
        Due.is("it has arrived", x.untilEmpty(), 0);
        x = Scenes.meeting(2, 7);
        x.pass(6);
        Due.is("one sent off", x.person(0, 2), 3);
        x.pass(1);
        Due.is("one sent off, the other one arrived", x.untilEmpty(), 0);
    }

    private static void emptyBehindHowMany() {
        Due.of(EMPTY, "Tells behind how many ticks nobody is on the way any more.");
        StairBows x = new StairBows();
        for (int people = 1; people <= 24; people++) {
            x.come(5, true);
            Due.is("a row of " + people, x.untilEmpty(), 12 + people);
        }
        x = Scenes.lowOneAtTheTop();
        Due.is("one sent off, then one arrived", x.untilEmpty(), 2);
    }

    private static void emptyNotWithin200() {
        Due.of(EMPTY, "NONE if that is not so within 200.");
        Due.is("behind 201", aLongWay(6).untilEmpty(), NONE);
        Due.is("behind 200", aLongWay(7).untilEmpty(), 200);
        Due.is("behind 199", aLongWay(8).untilEmpty(), 199);
    }

    private static void emptyNever() {
        Due.of(EMPTY, "NONE if that is not so within 200.", "never");
        StairBows x = new StairBows();
        Scenes.jam(x);
        Due.is("a jam", x.untilEmpty(), NONE);
        x.pass(99);
        Due.is("for ever", x.untilEmpty(), NONE);
        x.turn(2);
        Due.is("until one turns", x.untilEmpty(), 4);
    }

    // ---- promise 14

    private static void ifPassedTicksOutOfRange() {
        Due.of(IF_PASSED, "BAD_VALUE if an argument is out of range.", "ticks: 1 to 200");
        StairBows x = Scenes.crowdOf(1);
        for (int ticks : new int[] {0, -1, 201, FAR_BELOW, FAR_ABOVE}) {
            for (int what = -1; what <= 4; what++) {
                Due.is("ifPassed(" + ticks + ", " + what + ")", x.ifPassed(ticks, what), BAD_VALUE);
            }
        }
        Due.is("ifPassed(1, 0)", x.ifPassed(1, 0), 0);
        Due.is("ifPassed(200, 0)", x.ifPassed(200, 0), 1);
    }

    private static void ifPassedWhatOutOfRange() {
        Due.of(IF_PASSED, "BAD_VALUE if an argument is out of range.", "what: 0 to 3");
        StairBows x = new StairBows();
        for (int what : new int[] {-1, 4, FAR_BELOW, FAR_ABOVE}) {
            Due.is("ifPassed(1, " + what + ")", x.ifPassed(1, what), BAD_VALUE);
            Due.is("ifPassed(200, " + what + ")", x.ifPassed(200, what), BAD_VALUE);
        }
        for (int what = 0; what <= 3; what++) {
            Due.is("ifPassed(200, " + what + ") with nobody", x.ifPassed(200, what), 0);
        }
    }

    private static void ifPassedArrivals() {
        Due.of(IF_PASSED, "Tells what ticks would bring. [..] 0 arrivals");
        StairBows x = Scenes.crowdOf(3);
        Due.is("in 12 ticks", x.ifPassed(12, 0), 0);
        Due.is("in 13 ticks", x.ifPassed(13, 0), 1);
        Due.is("in 14 ticks", x.ifPassed(14, 0), 2);
        x.pass(13);
        Due.is("without those before", x.ifPassed(200, 0), 2);
        x.pass(99);
        Due.is("nobody is left", x.ifPassed(200, 0), 0);
    }

    private static void ifPassedSentOff() {
        Due.of(IF_PASSED, "1 people who are sent off");
        StairBows x = Scenes.meeting(2, 7);
        Due.is("in 5 ticks", x.ifPassed(5, 1), 0);
        Due.is("in 6 ticks", x.ifPassed(6, 1), 1);
        Due.is("they do not arrive", x.ifPassed(200, 0), 1);
        x.pass(6);
        Due.is("without those before", x.ifPassed(200, 1), 0);
    }

    private static void ifPassedBows() {
        Due.of(IF_PASSED, "2 bows");
        StairBows x = Scenes.meeting(2, 7);
        for (int ticks = 1; ticks <= 6; ticks++) {
            Due.is("in " + ticks + " ticks", x.ifPassed(ticks, 2), 6 * ticks);
        }
        Due.is("then no more", x.ifPassed(200, 2), 36);
        x.pass(4);
        Due.is("without those before", x.ifPassed(200, 2), 12);
    }

    private static void ifPassedWaits() {
        Due.of(IF_PASSED, "3 waits");
        StairBows x = Scenes.crowdOf(4);
        Due.is("in one tick", x.ifPassed(1, 3), 3);
        Due.is("in two", x.ifPassed(2, 3), 5);
        Due.is("in 200", x.ifPassed(200, 3), 6);
        x.pass(1);
        Due.is("without those before", x.ifPassed(200, 3), 3);
    }

    private static void ifPassedOneAndTwoHundred() {
        Due.of(IF_PASSED, "ticks: 1 to 200", "just so many");
        StairBows x = new StairBows();
        Scenes.jam(x);
        for (int ticks : new int[] {1, 2, 99, 100, 199, 200}) {
            Due.is("the waits of three in " + ticks, x.ifPassed(ticks, 3), 3 * ticks);
        }
        Due.is("no arrivals", x.ifPassed(200, 0), 0);
        x = aLongWay(6);
        int arrivals = x.ifPassed(200, 0);
        x.pass(1);
        Due.is("one arrives in the 201st", x.ifPassed(200, 0), arrivals + 1);
    }

    // ---- promise 15

    private static void bestAllAreLandings() {
        Due.of(BEST, "NONE if all are landings.");
        StairBows x = Scenes.stairsOfLandings();
        Due.is("with nobody", x.bestLanding(), NONE);
        x.come(5, true);
        x.come(6, false);
        Due.is("with two who meet", x.bestLanding(), NONE);
    }

    private static void bestOfThoseThatAreNoneNow() {
        Due.of(BEST, "of those that are none now");
        for (int left = 0; left < 12; left++) {
            StairBows x = Scenes.stairsOfLandings();
            x.come(5, true);
            x.come(6, false);
            x.landing(left, false);
            Due.is("one is left", x.bestLanding(), left);
        }
        StairBows x = Scenes.meeting(7, 2);
        Due.is("they meet on 6", x.bestLanding(), 6);
        x.landing(6, true);
        Due.is("there is a landing", x.bestLanding(), 0);
        x.landing(0, true);
        Due.is("there is one, too", x.bestLanding(), 1);
    }

    private static void bestOfSeveralTheLowest() {
        Due.of(BEST, "of several the lowest");
        StairBows x = Scenes.stairsWithout(4, 8);
        for (int step = 0; step < 12; step++) {
            Due.is("nobody bows anyway", x.bestLanding(), step);
            x.landing(step, true);
        }
    }

    private static void bestFewestBows() {
        Due.of(BEST, "Finds the step which, if it was a landing, would have the fewest bows made");
        Due.is("up goes on 6 first", Scenes.meeting(7, 2).bestLanding(), 6);
        Due.is("down goes on 5 first", Scenes.meeting(2, 7).bestLanding(), 5);
        StairBows x = Scenes.stairsWithout(4, 8);
        x.come(5, true);
        x.come(5, false);
        Due.is("two", x.bestLanding(), bestByTrying(x));
        x.come(9, false);
        x.come(2, true);
        Due.is("four", x.bestLanding(), bestByTrying(x));
        x.pass(5);
        Due.is("four on steps", x.bestLanding(), bestByTrying(x));
        Due.is("nothing has changed", x.count(9), 0);
    }

    private static int bestByTrying(StairBows x) {
        int best = NONE, fewest = FAR_ABOVE;
        for (int step = 0; step < 12; step++) {
            if (x.landing(step, true) >= 0) {
                int bows = x.ifPassed(50, 2);
                x.undo();
                if (bows < fewest) {
                    fewest = bows;
                    best = step;
                }
            }
        }
        return best;
    }

    private static void bestInFiftyTicks() {
        Due.of(BEST, "in the next 50 ticks");
        StairBows x = new StairBows();
        x.set(StairBows.PATIENCE, 9);
        x.set(StairBows.HOLDS, 3);
        Due.putAll(x, "d8u1d8d5u6d8");
        x.read();
        Due.is("behind 49 ticks it would be 0", x.bestLanding(), 5);
        x = new StairBows();
        x.set(StairBows.PATIENCE, 8);
        Due.putAll(x, "d6u8d4d6u8d8");
        x.read();
        Due.is("behind 51 ticks it would be 1", x.bestLanding(), 0);
    }

    private static void bestOnTheLastSteps() {
        Due.of(BEST, "Returns the step", "the lowest and the highest one, too");
        StairBows x = Scenes.lowOneAtTheBottom();
        Due.is("nobody is sent off from a landing", x.bestLanding(), 0);
        x = Scenes.lowOneAtTheTop();
        Due.is("nor from the highest", x.bestLanding(), 11);
    }
}

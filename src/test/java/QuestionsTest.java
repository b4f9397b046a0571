/** Promises 8 to 11: what there is. */
public final class QuestionsTest {
    private static final String PERSON = "Promise 8", STEP = "Promise 9", DOES = "Promise 10", COUNT = "Promise 11";
    private static final int NO_SUCH = -1, BAD_VALUE = -2, NONE = -6;
    private static final int FAR_BELOW = Integer.MIN_VALUE, FAR_ABOVE = Integer.MAX_VALUE;

    public static void main(String[] args) {
        personNoSuchPerson();
        personWhatOutOfRange();
        personRankAndWay();
        personWhere();
        personStep();
        personWaits();
        personYieldsAndBows();
        personEndedBehind();
        personStayed();
        stepNoSuchStep();
        stepWhatOutOfRange();
        stepIsLanding();
        stepPeopleAndRoom();
        stepHighest();
        stepHighestOfSeveral();
        doesNoSuchPerson();
        doesNothing();
        doesGo();
        doesArrive();
        doesStay();
        doesStepBack();
        doesStepBackHavingStayed();
        doesStepBackHavingGone();
        isSentOff();
        isSentOffHavingStayed();
        isSentOffHavingGone();
        countWhatOutOfRange();
        countSettings();
        countPeopleByWhere();
        countLandings();
        countBowsYieldsWaits();
        countTicks();
        countPad();
        countChanges();
        Due.end();
    }

    // ---- promise 8

    private static void personNoSuchPerson() {
        Due.of(PERSON, "NO_SUCH if there is no such person");
        StairBows x = new StairBows();
        Due.is("person(0, 0) of nobody", x.person(0, 0), NO_SUCH);
        Due.is("person(0, 9) of nobody", x.person(0, 9), NO_SUCH);
        x.come(6, false);
        for (int person : new int[] {-1, 1, 23, 24, FAR_BELOW, FAR_ABOVE}) {
            for (int what = -1; what <= 9; what++) {
                Due.is("person(" + person + ", " + what + ")", x.person(person, what), NO_SUCH);
            }
        }
        x = Scenes.crowdOf(24);
        Due.is("the last of 24", x.person(23, 0), 5);
        Due.is("none behind the last of 24", x.person(24, 0), NO_SUCH);
    }

    private static void personWhatOutOfRange() {
        Due.of(PERSON, "BAD_VALUE if what is out of range.");
        StairBows x = new StairBows();
        x.come(6, false);
        for (int what : new int[] {-1, 9, 10, FAR_BELOW, FAR_ABOVE}) {
            Due.is("person(0, " + what + ")", x.person(0, what), BAD_VALUE);
        }
        Due.is("the least", x.person(0, 0), 6);
        Due.is("the greatest", x.person(0, 8), 0);
    }

    private static void personRankAndWay() {
        Due.of(PERSON, "0 the rank, 1 whether it goes up (1 or 0)");
        StairBows x = new StairBows();
        for (int rank = 1; rank <= 9; rank++) {
            x.come(rank, rank % 2 == 0);
            Due.is("the rank", x.person(rank - 1, 0), rank);
            Due.is("the way", x.person(rank - 1, 1), 1 - rank % 2);
        }
    }

    private static void personWhere() {
        Due.of(PERSON, "2 where it is: 0 in the hall from which it goes, 1 on a step, 2 arrived, 3 sent off");
        for (boolean goesUp : new boolean[] {true, false}) {
            StairBows x = new StairBows();
            x.come(6, goesUp);
            Due.is("in the hall", x.person(0, 2), 0);
            x.pass(1);
            Due.is("on the first step", x.person(0, 2), 1);
            x.pass(11);
            Due.is("on the last step", x.person(0, 2), 1);
            x.pass(1);
            Due.is("arrived", x.person(0, 2), 2);
        }
        StairBows x = Scenes.lowOneAtTheBottom();
        x.pass(1);
        Due.is("sent off", x.person(1, 2), 3);
    }

    private static void personStep() {
        Due.of(PERSON, "3 the step (NONE)");
        for (boolean goesUp : new boolean[] {true, false}) {
            StairBows x = new StairBows();
            x.come(6, goesUp);
            Due.is("in the hall", x.person(0, 3), NONE);
            for (int tick = 1; tick <= 12; tick++) {
                x.pass(1);
                Due.is("on a step", x.person(0, 3), goesUp ? tick - 1 : 12 - tick);
            }
            x.pass(1);
            Due.is("arrived", x.person(0, 3), NONE);
        }
        StairBows x = Scenes.lowOneAtTheBottom();
        x.pass(1);
        Due.is("sent off", x.person(1, 3), NONE);
    }

    private static void personWaits() {
        Due.of(PERSON, "4 waits so far");
        StairBows x = Scenes.crowdOf(24);
        x.pass(30);
        for (int number = 0; number < 24; number++) {
            Due.is("the waits of " + number, x.person(number, 4), number);
        }
    }

    private static void personYieldsAndBows() {
        Due.of(PERSON, "5 yields so far, 6 bows so far");
        StairBows x = Scenes.meeting(3, 8);
        Due.is("no yield so far", x.person(0, 5), 0);
        Due.is("no bow so far", x.person(0, 6), 0);
        x.pass(1);
        x.set(1, 5);
        x.pass(1);
        Due.is("two yields", x.person(0, 5), 2);
        Due.is("6 bows, and 30", x.person(0, 6), 36);
        Due.is("the other one does not yield", x.person(1, 5), 0);
        Due.is("nor bow", x.person(1, 6), 0);
    }

    private static void personEndedBehind() {
        Due.of(PERSON, "7 how many ticks there were behind that in which it arrived or was sent off (NONE)");
        StairBows x = new StairBows();
        x.come(6, false);
        Due.is("in the hall", x.person(0, 7), NONE);
        x.pass(12);
        Due.is("on a step", x.person(0, 7), NONE);
        x.pass(1);
        Due.is("arrived", x.person(0, 7), 13);
        x.pass(50);
        Due.is("long ago", x.person(0, 7), 13);
        x = Scenes.lowOneAtTheBottom();
        Due.is("not yet", x.person(1, 7), NONE);
        x.pass(1);
        Due.is("sent off", x.person(1, 7), 12);
        x.pass(50);
        Due.is("long ago", x.person(1, 7), 12);
        Due.is("the other one", x.person(0, 7), 13);
        x = Scenes.atTheTick(9986);
        x.come(6, true);
        x.pass(13);
        Due.is("in the last tick that can pass", x.person(0, 7), 9999);
    }

    private static void personStayed() {
        Due.of(PERSON, "8 in how many ticks, one behind the other, it stayed just now (0 behind any other deed)");
        StairBows x = Scenes.crowdOf(24);
        for (int tick = 1; tick <= 23; tick++) {
            x.pass(1);
            Due.is("it stays in the hall", x.person(23, 8), tick);
        }
        x.pass(1);
        Due.is("it went", x.person(23, 8), 0);
        Due.is("its waits are kept", x.person(23, 4), 23);
        x = Scenes.meeting(5, 5);
        x.set(2, 2);
        x.pass(2);
        Due.is("it stays on a step", x.person(0, 8), 2);
        x.pass(1);
        Due.is("it stayed and then stepped back", x.person(0, 8), 0);
        Due.is("the other one went", x.person(1, 8), 0);
        x = new StairBows();
        x.set(2, 1);
        x.come(6, false);
        x.pass(10);
        x.come(1, true);
        x.pass(2);
        Due.is("it stays on the lowest step", x.person(1, 8), 1);
        x.pass(1);
        Due.is("it was sent off", x.person(1, 8), 0);
        x.pass(1);
        Due.is("the other one arrived", x.person(0, 8), 0);
        x = Scenes.crowdOf(1);
        x.set(2, 9);
        x.come(5, false);
        x.pass(6);
        x.turn(0);
        x.pass(5);
        x.turn(0);
        x.pass(1);
        Due.is("it stays on the step 0", x.person(0, 8), 1);
        x.turn(0);
        Due.is("it turns, and arrives", x.pass(1), 1);
        Due.is("its stay is over", x.person(0, 8), 0);
    }

    // ---- promise 9

    private static void stepNoSuchStep() {
        Due.of(STEP, "NO_SUCH if there is no such step");
        StairBows x = new StairBows();
        for (int step : new int[] {-1, 12, 32, FAR_BELOW, FAR_ABOVE}) {
            for (int what = -1; what <= 4; what++) {
                Due.is("step(" + step + ", " + what + ")", x.step(step, what), NO_SUCH);
            }
        }
        Due.is("the lowest step", x.step(0, 2), 1);
        Due.is("the highest step", x.step(11, 2), 1);
    }

    private static void stepWhatOutOfRange() {
        Due.of(STEP, "BAD_VALUE if what is out of range.");
        StairBows x = new StairBows();
        for (int step : new int[] {0, 4, 11}) {
            for (int what : new int[] {-1, 4, FAR_BELOW, FAR_ABOVE}) {
                Due.is("step(" + step + ", " + what + ")", x.step(step, what), BAD_VALUE);
            }
        }
    }

    private static void stepIsLanding() {
        Due.of(STEP, "0 whether it is a landing (1 or 0)");
        StairBows x = new StairBows();
        for (int step = 0; step < 12; step++) {
            boolean isLanding = step == 4 || step == 8;
            Due.is("step(" + step + ", 0)", x.step(step, 0), isLanding ? 1 : 0);
            x.landing(step, !isLanding);
            Due.is("step(" + step + ", 0) then", x.step(step, 0), isLanding ? 0 : 1);
        }
    }

    private static void stepPeopleAndRoom() {
        Due.of(STEP, "1 people there, how many, 2 for how many more there is room");
        StairBows x = new StairBows();
        Scenes.jam(x);
        x.set(0, 4);
        x.landing(0, true);
        for (int there = 0; there <= 4; there++) {
            Due.is("people on a landing", x.step(0, 1), there);
            Due.is("room on a landing", x.step(0, 2), 4 - there);
            x.come(3, true);
            x.pass(1);
        }
        Due.is("no more people", x.step(0, 1), 4);
        Due.is("no room", x.step(0, 2), 0);
        Due.is("one on a step", x.step(1, 1), 1);
        Due.is("no room on it", x.step(1, 2), 0);
        Due.is("nobody on a step", x.step(11, 1), 0);
        Due.is("room for one on it", x.step(11, 2), 1);
    }

    private static void stepHighest() {
        Due.of(STEP, "3 the person with the highest rank there [..] (NONE)");
        StairBows x = Scenes.facingCrowd(9, 2, 7, 1, 6);
        Due.is("of four", x.step(4, 3), 1);
        Due.is("of one", x.step(3, 3), 4);
        Due.is("the one of rank 1", x.step(2, 3), 5);
        Due.is("nobody on a landing", x.step(5, 3), NONE);
        Due.is("nobody on the lowest step", x.step(0, 3), NONE);
        x.pass(99);
        for (int step = 0; step < 12; step++) {
            Due.is("nobody at last", x.step(step, 3), NONE);
        }
    }

    private static void stepHighestOfSeveral() {
        Due.of(STEP, "of several the lowest number");
        Due.is("of two among four", Scenes.facingCrowd(9, 2, 7, 7, 1).step(4, 3), 1);
        Due.is("of four", Scenes.facingCrowd(9, 3, 3, 3, 3).step(4, 3), 0);
        Due.is("the last is the highest", Scenes.facingCrowd(9, 3, 3, 3, 4).step(4, 3), 3);
    }

    // ---- promise 10

    private static void doesNoSuchPerson() {
        Due.of(DOES, "NO_SUCH if there is no such person.");
        StairBows x = new StairBows();
        Due.is("does(0) of nobody", x.does(0), NO_SUCH);
        x.come(5, true);
        for (int person : new int[] {-1, 1, 23, 24, FAR_BELOW, FAR_ABOVE}) {
            Due.is("does(" + person + ")", x.does(person), NO_SUCH);
        }
        x = Scenes.crowdOf(24);
        Due.is("the last of 24", x.does(23), 3);
        Due.is("none behind the last of 24", x.does(24), NO_SUCH);
    }

    private static void doesNothing() {
        Due.of(DOES, "0 it is not on its way any more");
        StairBows x = Scenes.crowdOf(1);
        x.pass(12);
        Due.is("not yet arrived", x.does(0), 2);
        x.pass(1);
        Due.is("arrived", x.does(0), 0);
        x = Scenes.lowOneAtTheBottom();
        Due.is("not yet sent off", x.does(1), 5);
        x.pass(1);
        Due.is("sent off", x.does(1), 0);
    }

    private static void doesGo() {
        Due.of(DOES, "1 it goes on a step");
        for (boolean goesUp : new boolean[] {true, false}) {
            StairBows x = new StairBows();
            x.come(5, goesUp);
            for (int tick = 0; tick < 12; tick++) {
                Due.is("behind " + tick + " ticks", x.does(0), 1);
                x.pass(1);
            }
        }
    }

    private static void doesArrive() {
        Due.of(DOES, "2 it arrives");
        for (boolean goesUp : new boolean[] {true, false}) {
            StairBows x = new StairBows();
            x.come(5, goesUp);
            x.pass(12);
            Due.is("on the last step", x.does(0), 2);
        }
    }

    private static void doesStay() {
        Due.of(DOES, "3 it stays");
        StairBows x = Scenes.crowdOf(2);
        Due.is("the second in the hall", x.does(1), 3);
        x = new StairBows();
        Scenes.jam(x);
        for (int number = 0; number < 3; number++) {
            Due.is(number + " on a step", x.does(number), 3);
        }
        Due.is("no tick passed", x.count(3), 10);
    }

    private static void doesStepBack() {
        Due.of(DOES, "4 it steps back");
        Due.is("up", Scenes.meeting(2, 7).does(0), 4);
        Due.is("down", Scenes.meeting(7, 2).does(1), 4);
        Due.is("on a landing", Scenes.facingCrowd(9, 3).does(0), 4);
    }

    private static void doesStepBackHavingStayed() {
        Due.of(DOES, "(4 and 5 also if it went on or stayed ahead of that in the same tick)", "stayed, then stepped back");
        StairBows x = Scenes.meeting(4, 4);
        Due.is("up", x.does(0), 4);
        Due.is("down", x.does(1), 1);
        x.pass(1);
        Due.is("it waited all the same", x.person(0, 4), 1);
        Due.stepsAre("and stepped back", x, 4, 5);
    }

    private static void doesStepBackHavingGone() {
        Due.of(DOES, "(4 and 5 also if it went on or stayed ahead of that in the same tick)", "went on, then stepped back");
        StairBows x = Scenes.stairsWithout(4, 8);
        x.come(4, true);
        x.pass(1);
        x.come(4, false);
        x.pass(5);
        Due.stepsAre("with one step between them", x, 5, 7);
        Due.is("up", x.does(0), 4);
        Due.is("down", x.does(1), 1);
        x.pass(1);
        Due.stepsAre("up went there and back", x, 5, 6);
        Due.is("it yielded", x.person(0, 5), 1);
        Due.is("it did not wait", x.person(0, 4), 0);
    }

    private static void isSentOff() {
        Due.of(DOES, "5 it is sent off");
        Due.is("from the lowest step", Scenes.lowOneAtTheBottom().does(1), 5);
        Due.is("from the highest step", Scenes.lowOneAtTheTop().does(1), 5);
    }

    private static void isSentOffHavingStayed() {
        Due.of(DOES, "(4 and 5 also if it went on or stayed ahead of that in the same tick)", "stayed, then sent off");
        StairBows x = Scenes.meeting(5, 5);
        x.turn(0);
        x.pass(5);
        x.turn(0);
        Due.stepsAre("they meet at the bottom", x, 0, 1);
        Due.is("up", x.does(0), 5);
        x.pass(1);
        Due.is("it waited all the same", x.person(0, 4), 1);
        Due.is("and was sent off", x.person(0, 2), 3);
    }

    /** Eleven of rank 9 keep the lower one (0) in its hall, until the one who goes down (1), past them, stands on 1. */
    private static void isSentOffHavingGone() {
        Due.of(DOES, "(4 and 5 also if it went on or stayed ahead of that in the same tick)", "went on, then sent off");
        StairBows x = Scenes.stairsOfLandings();
        x.landing(0, false);
        x.come(5, true);
        x.come(5, false);
        for (int i = 0; i < 11; i++) {
            x.come(9, true);
        }
        x.pass(11);
        Due.stepsAre("up in the hall, down on 1", x, NONE, 1);
        Due.is("up waited", x.person(0, 4), 11);
        Due.is("up", x.does(0), 5);
        x.pass(1);
        Due.is("it did not wait any more", x.person(0, 4), 11);
        Due.is("and was sent off", x.person(0, 2), 3);
    }

    // ---- promise 11

    private static void countWhatOutOfRange() {
        Due.of(COUNT, "BAD_VALUE if what is out of range.");
        StairBows x = new StairBows();
        for (int what : new int[] {-1, 15, 16, FAR_BELOW, FAR_ABOVE}) {
            Due.is("count(" + what + ")", x.count(what), BAD_VALUE);
        }
        for (int what = 0; what <= 14; what++) {
            Due.isTrue("count(" + what + ")", x.count(what) >= 0);
        }
    }

    private static void countSettings() {
        Due.of(COUNT, "0 to 2 the settings");
        StairBows x = new StairBows();
        Due.countsAre("at first", x, 2, 1, 0);
        x.set(0, 4);
        x.set(1, 5);
        x.set(2, 9);
        Due.countsAre("the greatest", x, 4, 5, 9);
    }

    private static void countPeopleByWhere() {
        Due.of(COUNT, "4 people, 5 those in halls from which they go, 6 those on steps, 7 those that have arrived, 8 those that were sent off");
        StairBows x = new StairBows();
        Due.countsAre("nobody", x, 2, 1, 0, 0, 0, 0, 0, 0, 0);
        x.come(6, false);
        x.pass(10);
        x.come(1, true);
        x.pass(1);
        x.come(3, true);
        x.come(2, false);
        Due.countsAre("two in halls, two on steps", x, 2, 1, 0, 11, 4, 2, 2, 0, 0);
        x.pass(1);
        Due.countsAre("one sent off", x, 2, 1, 0, 12, 4, 1, 2, 0, 1);
        x.pass(1);
        Due.countsAre("one arrived", x, 2, 1, 0, 13, 4, 0, 2, 1, 1);
        x.pass(99);
        Due.countsAre("nobody is on the way any more", x, 2, 1, 0, 112, 4, 0, 0, 3, 1);
        x = Scenes.crowdOf(24);
        Due.countsAre("24", x, 2, 1, 0, 0, 24, 24, 0, 0, 0);
    }

    private static void countLandings() {
        Due.of(COUNT, "9 landings, as a set (a bit mask)");
        StairBows x = Scenes.stairsWithout(4, 8);
        Due.is("none", x.count(9), 0);
        for (int step = 0; step < 12; step++) {
            x.landing(step, true);
            Due.is("up to " + step, x.count(9), (2 << step) - 1);
        }
        x.landing(0, false);
        Due.is("all but the lowest", x.count(9), 4094);
    }

    private static void countBowsYieldsWaits() {
        Due.of(COUNT, "10 bows so far, 11 yields so far, 12 waits so far");
        StairBows x = new StairBows();
        x.set(1, 2);
        x.come(6, false);
        x.pass(10);
        x.come(1, true);
        x.pass(1);
        x.come(3, true);
        x.come(2, true);
        x.pass(1);
        Due.is("bows: 2 * (5 + 1)", x.count(10), 12);
        Due.is("yields", x.count(11), 1);
        Due.is("waits of two", x.count(12), 2);
        x.pass(99);
        Due.is("bows of one sent off are kept", x.count(10), 12);
        Due.is("yields, too", x.count(11), 1);
        Due.is("and waits of those who arrived", x.count(12), 3);
    }

    private static void countTicks() {
        Due.of(COUNT, "3 the ticks");
        StairBows x = new StairBows();
        Due.is("at first", x.count(3), 0);
        x.pass(99);
        Due.is("behind 99", x.count(3), 99);
        Due.is("at the end", Scenes.atTheTick(9999).count(3), 9999);
    }

    private static void countPad() {
        Due.of(COUNT, "13 the length of the pad");
        StairBows x = new StairBows();
        for (int length = 1; length <= 60; length++) {
            x.put('u');
            Due.is("behind " + length, x.count(13), length);
        }
        x.put('u');
        Due.is("it is full", x.count(13), 60);
        x.wipe();
        Due.is("it is empty", x.count(13), 0);
    }

    private static void countChanges() {
        Due.of(COUNT, "14 how many changes can be undone");
        StairBows x = new StairBows();
        for (int changes = 1; changes <= 8; changes++) {
            x.pass(1);
            Due.is("behind " + changes, x.count(14), Math.min(changes, 6));
        }
        for (int left = 5; left >= 0; left--) {
            x.undo();
            Due.is("with " + left + " left", x.count(14), left);
        }
        x.undo();
        Due.is("with none left", x.count(14), 0);
    }
}

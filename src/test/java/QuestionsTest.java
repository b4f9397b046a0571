/** Promises 8 to 15: what there is, and what if. */
public final class QuestionsTest {
    private static final int NO_SUCH = -1, BAD_VALUE = -2, NONE = -6;
    private static final int FAR_BELOW = Integer.MIN_VALUE, FAR_ABOVE = Integer.MAX_VALUE;

    public static void main(String[] args) {
        person();
        step();
        does();
        count();
        untilArrived();
        untilEmpty();
        twoHundredTicks();
        ifPassed();
        bestLanding();
        bestLandingInFiftyTicks();
        Due.end();
    }

    private static void person() {
        StairBows x = new StairBows();
        Due.is("nobody there", x.person(0, 0), NO_SUCH);
        Due.is("nobody comes first", x.person(0, 9), NO_SUCH);
        x.come(6, false);
        for (int person : new int[] {-1, 1, 24, FAR_BELOW, FAR_ABOVE}) {
            Due.is("person(" + person + ", 0)", x.person(person, 0), NO_SUCH);
        }
        for (int what : new int[] {-1, 9, FAR_BELOW, FAR_ABOVE}) {
            Due.is("person(0, " + what + ")", x.person(0, what), BAD_VALUE);
        }
        personIs("in the hall", x, 6, 0, 0, NONE, 0, 0, 0, NONE, 0);
        x.pass(1);
        personIs("on a step", x, 6, 0, 1, 11, 0, 0, 0, NONE, 0);
        x.pass(12);
        personIs("arrived", x, 6, 0, 2, NONE, 0, 0, 0, 13, 0);
        x.pass(12);
        personIs("long ago", x, 6, 0, 2, NONE, 0, 0, 0, 13, 0);
    }

    private static void personIs(String when, StairBows x, int... values) {
        for (int what = 0; what < values.length; what++) {
            Due.is(when + ": person(0, " + what + ")", x.person(0, what), values[what]);
        }
    }

    private static void step() {
        StairBows x = new StairBows();
        for (int step : new int[] {-1, 12, FAR_BELOW, FAR_ABOVE}) {
            Due.is("step(" + step + ", 0)", x.step(step, 0), NO_SUCH);
            Due.is("step(" + step + ", 9)", x.step(step, 9), NO_SUCH);
        }
        for (int what : new int[] {-1, 4, FAR_BELOW, FAR_ABOVE}) {
            Due.is("step(0, " + what + ")", x.step(0, what), BAD_VALUE);
        }
        x = Scenes.threeOnLanding();
        Due.is("a landing", x.step(0, 0), 1);
        Due.is("three", x.step(0, 1), 3);
        Due.is("room for one", x.step(0, 2), 1);
        Due.is("the highest, the lowest number", x.step(0, 3), 1);
        Due.is("step 1", x.step(1, 1), 0);
        Due.is("room on 1", x.step(1, 2), 1);
        Due.is("nobody on 1", x.step(1, 3), NONE);
        x.pass(1);
        Due.is("on 1", x.step(1, 3), 1);
        Due.is("no room on 1", x.step(1, 2), 0);
    }

    private static void does() {
        StairBows x = new StairBows();
        Due.is("nobody there", x.does(0), NO_SUCH);
        x.come(5, true);
        for (int person : new int[] {-1, 1, FAR_BELOW, FAR_ABOVE}) {
            Due.is("does(" + person + ")", x.does(person), NO_SUCH);
        }
        x.come(4, true);
        Due.is("goes", x.does(0), 1);
        Due.is("stays", x.does(1), 3);
        Due.is("nothing has changed", x.count(3), 0);
        x.pass(12);
        Due.is("arrives", x.does(0), 2);
        x.pass(1);
        Due.is("is there", x.does(0), 0);
        x = Scenes.stairsWithout(4, 8);
        x.come(4, true);
        x.come(4, false);
        x.pass(6);
        Due.is("stays, then steps back", x.does(0), 4);
        Due.is("goes on", x.does(1), 1);
        x.pass(1);
        Due.is("it waited all the same", x.person(0, 4), 1);
        Due.is("and its stay is over", x.person(0, 8), 0);
    }

    private static void count() {
        StairBows x = new StairBows();
        for (int what : new int[] {-1, 15, FAR_BELOW, FAR_ABOVE}) {
            Due.is("count(" + what + ")", x.count(what), BAD_VALUE);
        }
        x.set(1, 2);
        x.come(6, false);
        x.pass(10);
        x.come(1, true);
        x.pass(1);
        x.come(3, true);
        x.come(2, true);
        x.put(Due.text("ab?"));
        Due.countsAre("before", x, 2, 2, 0, 11, 4, 2, 2, 0, 0, 1 << 4 | 1 << 8, 0, 0, 0, 3, 6);
        x.pass(1);
        Due.countsAre("one sent off", x, 2, 2, 0, 12, 4, 2, 1, 0, 1, 1 << 4 | 1 << 8, 12, 1, 2, 3, 6);
        x.pass(1);
        Due.countsAre("one arrived", x, 2, 2, 0, 13, 4, 1, 1, 1, 1, 1 << 4 | 1 << 8, 12, 1, 3, 3, 6);
    }

    private static void untilArrived() {
        StairBows x = new StairBows();
        Due.is("nobody there", x.untilArrived(0), NO_SUCH);
        x.come(5, true);
        for (int person : new int[] {-1, 1, FAR_BELOW, FAR_ABOVE}) {
            Due.is("untilArrived(" + person + ")", x.untilArrived(person), NO_SUCH);
        }
        Due.is("from the hall", x.untilArrived(0), 13);
        x.pass(12);
        Due.is("from the step 11", x.untilArrived(0), 1);
        x.pass(1);
        Due.is("arrived", x.untilArrived(0), 0);
        x.pass(9);
        Due.is("long ago", x.untilArrived(0), 0);
        Due.is("nothing has changed", x.count(3), 22);
    }

    private static void untilEmpty() {
        StairBows x = new StairBows();
        for (int i = 0; i < 24; i++) {
            x.come(5, true);
            Due.is("a row of " + (i + 1), x.untilEmpty(), 13 + i);
        }
        Due.is("nothing has changed", x.count(5), 24);
        x.pass(35);
        Due.is("one tick", x.untilEmpty(), 1);
        x.pass(1);
        Due.is("empty", x.untilEmpty(), 0);
    }

    /** Much patience and full landings: the last one arrives behind the tick 207, and then nobody is on the way. */
    private static void twoHundredTicks() {
        StairBows x = Scenes.stairsWithout(8);
        x.landing(0, true);
        x.landing(11, true);
        x.set(StairBows.HOLDS, 3);
        x.set(StairBows.PATIENCE, 9);
        x.put(Due.text("d8d5d4d2"));
        x.put(Due.text("d1d3u3d2"));
        x.put(Due.text("d3u5d5u1"));
        x.read();
        Due.is("arrived behind 207", x.untilArrived(11), NONE);
        x.pass(6);
        Due.is("arrived behind 201", x.untilArrived(11), NONE);
        Due.is("empty behind 201", x.untilEmpty(), NONE);
        int arrivals = x.ifPassed(200, 0);
        x.pass(1);
        Due.is("arrived behind 200", x.untilArrived(11), 200);
        Due.is("empty behind 200", x.untilEmpty(), 200);
        Due.is("the last arrival", x.ifPassed(200, 0), arrivals + 1);
        x.pass(99);
        x.pass(99);
        Due.is("arrived behind 2", x.untilArrived(11), 2);
        Due.is("none behind 1", x.ifPassed(1, 0), 0);
        Due.is("one behind 2", x.ifPassed(2, 0), 1);
    }

    private static void ifPassed() {
        StairBows x = new StairBows();
        for (int ticks : new int[] {0, -1, 201, FAR_BELOW, FAR_ABOVE}) {
            Due.is("ifPassed(" + ticks + ", 0)", x.ifPassed(ticks, 0), BAD_VALUE);
        }
        for (int what : new int[] {-1, 4, FAR_BELOW, FAR_ABOVE}) {
            Due.is("ifPassed(1, " + what + ")", x.ifPassed(1, what), BAD_VALUE);
        }
        x.set(1, 2);
        x.come(6, false);
        x.pass(10);
        x.come(1, true);
        x.pass(1);
        x.come(3, true);
        x.come(2, true);
        Due.is("arrivals in 1", x.ifPassed(1, 0), 0);
        Due.is("sent off in 1", x.ifPassed(1, 1), 1);
        Due.is("bows in 1", x.ifPassed(1, 2), 12);
        Due.is("waits in 1", x.ifPassed(1, 3), 2);
        Due.is("waits in 200", x.ifPassed(200, 3), 3);
        Due.is("nothing has changed", x.count(3), 11);
        x.pass(1);
        Due.is("nobody else is sent off", x.ifPassed(20, 1), 0);
        Due.is("there are no bows any more", x.ifPassed(20, 2), 0);
        Due.is("arrivals in 200", x.ifPassed(200, 0), 3);
        Due.is("arrivals in 1", x.ifPassed(1, 0), 1);
        x.pass(1);
        Due.is("without those before", x.ifPassed(200, 0), 2);
    }

    private static void bestLanding() {
        StairBows x = new StairBows();
        Due.is("nobody: the lowest", x.bestLanding(), 0);
        x.landing(0, true);
        Due.is("that is none now", x.bestLanding(), 1);
        Due.is("nothing has changed", x.count(9), 1 | 1 << 4 | 1 << 8);
        for (int step = 0; step < 12; step++) {
            x.landing(step, true);
        }
        Due.is("all are landings", x.bestLanding(), NONE);
        x.landing(7, false);
        Due.is("one is left", x.bestLanding(), 7);
        x = Scenes.stairsWithout(4, 8);
        x.come(5, true);
        x.come(5, false);
        Due.is("where they meet: 5 or 6", x.bestLanding(), bestByTrying(x));
        x.come(9, false);
        x.come(2, true);
        Due.is("for four", x.bestLanding(), bestByTrying(x));
    }

    /** Among these the choice would be another one behind 49 ticks, or behind 51. */
    private static void bestLandingInFiftyTicks() {
        StairBows x = new StairBows();
        x.set(StairBows.PATIENCE, 9);
        x.set(StairBows.HOLDS, 3);
        x.put(Due.text("d8u1d8d5"));
        x.put(Due.text("u6d8"));
        x.read();
        Due.is("behind 49 ticks it would be 0", x.bestLanding(), 5);
        x = new StairBows();
        x.set(StairBows.PATIENCE, 8);
        x.put(Due.text("d6u8d4d6"));
        x.put(Due.text("u8d8"));
        x.read();
        Due.is("behind 51 ticks it would be 1", x.bestLanding(), 0);
    }

    private static int bestByTrying(StairBows x) {
        int best = NONE, fewest = FAR_ABOVE;
        for (int step = 0; step < 12; step++) {
            if (x.landing(step, true) >= 0) {
                int bows = x.ifPassed(50, 2);
                x.undo();
                if (bows < fewest) {
                    fewest = bows;
                    best = step;
                }
            }
        }
        return best;
    }
}

/** The terms of a tick: who acts when, who yields to whom, who is sent off. */
public final class TickTest {
    private static final int NOT_POSSIBLE = -5, NONE = -6;

    public static void main(String[] args) {
        orderOfActing();
        yielding();
        yieldingWithNoRoomBehind();
        lowestOnLandingYields();
        firstOfOneRankYields();
        onlyTheOtherWayYields();
        landingWithNoRoomBehind();
        landingWithRoom();
        twiceInATick();
        sentOff();
        sentOffTheTop();
        backAndOffInATick();
        patience();
        Due.end();
    }

    private static void orderOfActing() {
        StairBows x = new StairBows();
        x.come(2, true);
        x.come(7, true);
        x.come(7, true);
        x.pass(1);
        Due.is("the highest first", x.person(1, 3), 0);
        Due.is("one waits", x.person(0, 4), 1);
        Due.is("the other too", x.person(2, 4), 1);
        x.pass(1);
        Due.is("then the lower number", x.person(2, 3), 0);
        x.pass(1);
        Due.is("the lowest last", x.person(0, 3), 0);
        Due.is("its waits", x.person(0, 4), 2);
        Due.is("its stay is over", x.person(0, 8), 0);
        x = new StairBows();
        x.come(1, true);
        x.pass(1);
        x.come(9, true);
        x.pass(1);
        Due.is("the higher acts while the step is not free yet", x.person(1, 2), 0);
        Due.is("and stays", x.person(1, 8), 1);
        Due.is("the lower goes", x.person(0, 3), 1);
        x = new StairBows();
        x.come(9, true);
        x.pass(1);
        x.come(1, true);
        x.pass(1);
        Due.is("the lower follows the higher at once", x.person(1, 3), 0);
    }

    private static void yielding() {
        StairBows x = Scenes.stairsWithout(4, 8);
        x.set(1, 3);
        x.come(2, true);
        x.come(7, false);
        x.pass(6);
        Due.is("up on 5", x.person(0, 3), 5);
        Due.is("down on 6", x.person(1, 3), 6);
        x.pass(1);
        Due.is("up steps back", x.person(0, 3), 4);
        Due.is("down goes on", x.person(1, 3), 5);
        Due.is("3 * (5 + 1) bows", x.person(0, 6), 18);
        Due.is("one yield", x.person(0, 5), 1);
        Due.is("all bows", x.count(10), 18);
        Due.is("all yields", x.count(11), 1);
        Due.is("no waits", x.count(12), 0);
        x = Scenes.stairsWithout(4, 8);
        x.come(7, true);
        x.come(2, false);
        x.pass(6);
        x.pass(1);
        Due.is("down steps back", x.person(1, 3), 7);
        Due.is("up goes on", x.person(0, 3), 6);
        Due.is("6 bows", x.person(1, 6), 6);
        x = Scenes.stairsWithout(4, 8);
        x.come(4, false);
        x.come(4, true);
        x.pass(7);
        Due.is("of one rank up yields", x.person(1, 3), 4);
        Due.is("not down", x.person(0, 5), 0);
        Due.is("with one bow", x.person(1, 6), 1);
        x.pass(1);
        Due.is("and again", x.person(1, 6), 2);
    }

    private static void yieldingWithNoRoomBehind() {
        StairBows x = Scenes.stairsWithout(4, 8);
        x.come(1, true);
        x.pass(1);
        x.come(3, true);
        x.come(9, false);
        x.pass(5);
        Due.is("one up", x.person(0, 3), 5);
        Due.is("one behind", x.person(1, 3), 3);
        Due.is("down", x.person(2, 3), 7);
        x.pass(1);
        Due.is("they meet: one up", x.person(0, 3), 5);
        Due.is("they meet: behind", x.person(1, 3), 4);
        Due.is("they meet: down", x.person(2, 3), 6);
        x.pass(1);
        Due.is("down has no way", x.person(2, 3), 6);
        Due.is("down waits", x.person(2, 4), 1);
        Due.is("nobody bows", x.count(10), 0);
        Due.is("all stay: two waited ahead of that", x.count(12), 5);
        Due.is("for ever", x.untilEmpty(), NONE);
    }

    private static void lowestOnLandingYields() {
        StairBows x = Scenes.fullLanding(5, 3);
        Due.is("up goes on", x.does(2), 1);
        Due.is("the lower one steps back", x.does(1), 4);
        Due.is("the higher one goes on, for 3 is free then", x.does(0), 1);
        x.pass(1);
        Due.is("up on 4", x.person(2, 3), 4);
        Due.is("the lower one on 5", x.person(1, 3), 5);
        Due.is("7 bows", x.person(1, 6), 7);
        Due.is("the higher one on 3", x.person(0, 3), 3);
        Due.is("it does not bow", x.person(0, 6), 0);
        Due.is("one yield", x.count(11), 1);
    }

    private static void firstOfOneRankYields() {
        StairBows x = Scenes.fullLanding(6, 6);
        x.pass(1);
        Due.is("the lower number on 5", x.person(0, 3), 5);
        Due.is("4 bows", x.person(0, 6), 4);
        Due.is("the other on 3", x.person(1, 3), 3);
    }

    private static void onlyTheOtherWayYields() {
        StairBows x = Scenes.fullLanding(5, 3);
        x.turn(1);
        x.pass(1);
        Due.is("up on 4", x.person(2, 3), 4);
        Due.is("who goes down steps back, though its rank is higher", x.person(0, 3), 5);
        Due.is("5 bows", x.person(0, 6), 5);
        Due.is("who goes up is held", x.person(1, 3), 4);
        Due.is("its waits", x.person(1, 8), 1);
        x = Scenes.fullLanding(5, 3);
        x.turn(0);
        x.turn(1);
        Due.is("who goes up acts ahead of those before it", x.does(2), 3);
        x.pass(1);
        Due.is("nobody bows", x.count(10), 0);
    }

    private static void landingWithNoRoomBehind() {
        StairBows x = new StairBows();
        x.come(5, false);
        x.come(3, false);
        x.come(2, false);
        x.pass(5);
        x.come(9, true);
        x.pass(4);
        Due.is("up on 3", x.person(3, 3), 3);
        Due.is("two on 4", x.step(4, 1), 2);
        Due.is("one behind", x.person(2, 3), 5);
        Due.is("up stays", x.does(3), 3);
        Due.is("for ever", x.untilEmpty(), NONE);
        Due.is("with no bows", x.ifPassed(200, 2), 0);
        x.set(StairBows.HOLDS, 3);
        Due.is("with more room up goes there", x.does(3), 1);
        x.undo();
        x.landing(5, true);
        Due.is("with room behind too", x.does(3), 1);
        Due.is("and the lowest on 4 steps back", x.does(1), 4);
        Due.is("the one on 5 does not", x.does(2), 1);
    }

    private static void landingWithRoom() {
        StairBows x = Scenes.fullLanding(5, 3);
        x.set(StairBows.HOLDS, 3);
        x.pass(1);
        Due.is("up on 4", x.person(2, 3), 4);
        Due.is("nobody bows", x.count(10), 0);
        Due.is("one of the others on 3", x.step(3, 3), 0);
        Due.is("the other is held", x.person(1, 3), 4);
    }

    private static void twiceInATick() {
        StairBows x = Scenes.fullLanding(8, 2);
        x.turn(0);
        Due.is("steps back", x.does(1), 4);
        x.pass(1);
        Due.is("rank 9 on 4", x.person(2, 3), 4);
        Due.is("rank 8 on 5", x.person(0, 3), 5);
        Due.is("the lowest on 6", x.person(1, 3), 6);
        Due.is("two yields", x.person(1, 5), 2);
        Due.is("8 and 7 bows", x.person(1, 6), 15);
        Due.is("no waits", x.person(1, 4), 0);
    }

    private static void sentOff() {
        StairBows x = new StairBows();
        x.set(StairBows.BOWS, 2);
        x.come(6, false);
        x.pass(10);
        x.come(1, true);
        x.pass(1);
        Due.is("down on 1", x.person(0, 3), 1);
        Due.is("up on 0", x.person(1, 3), 0);
        Due.is("up will be sent off", x.does(1), 5);
        x.pass(1);
        Due.is("down on 0", x.person(0, 3), 0);
        Due.is("sent off", x.person(1, 2), 3);
        Due.is("on no step", x.person(1, 3), NONE);
        Due.is("12 bows", x.person(1, 6), 12);
        Due.is("one yield", x.person(1, 5), 1);
        Due.is("behind the 12th tick", x.person(1, 7), 12);
        Due.is("counted", x.count(8), 1);
        Due.is("for good", x.untilArrived(1), NONE);
        Due.is("not on its way", x.does(1), 0);
        Due.is("no turn", x.turn(1), NOT_POSSIBLE);
        Due.is("nobody else is on the way behind the next", x.untilEmpty(), 1);
        Due.is("down arrives", x.pass(5), 1);
        Due.is("nobody else does", x.count(7), 1);
    }

    private static void sentOffTheTop() {
        StairBows x = new StairBows();
        x.come(6, true);
        x.pass(11);
        Due.is("up on 10", x.person(0, 3), 10);
        x.come(6, false);
        Due.is("who comes from the hall finds room", x.does(1), 1);
        x.undo();
        x.undo();
        x.pass(10);
        x.come(5, false);
        x.pass(1);
        Due.is("up on 10 again", x.person(0, 3), 10);
        Due.is("down on 11", x.person(1, 3), 11);
        x.pass(1);
        Due.is("sent off", x.person(1, 2), 3);
        Due.is("2 bows", x.person(1, 6), 2);
        Due.is("up on 11", x.person(0, 3), 11);
    }

    private static void backAndOffInATick() {
        StairBows x = new StairBows();
        x.landing(10, true);
        x.come(9, true);
        x.pass(7);
        x.come(8, false);
        x.pass(1);
        x.come(2, false);
        x.pass(2);
        Due.is("up on 9", x.person(0, 3), 9);
        Due.is("two on 10", x.step(10, 1), 2);
        x.turn(1);
        Due.is("at last it is sent off", x.does(2), 5);
        x.pass(1);
        Due.is("sent off", x.person(2, 2), 3);
        Due.is("two yields", x.person(2, 5), 2);
        Due.is("8 and 7 bows", x.person(2, 6), 15);
        Due.is("rank 9 on 10", x.person(0, 3), 10);
        Due.is("rank 8 on 11", x.person(1, 3), 11);
    }

    private static void patience() {
        StairBows x = Scenes.stairsWithout(4, 8);
        x.set(2, 2);
        x.come(8, true);
        x.come(3, false);
        x.pass(6);
        Due.is("does up stay", x.does(0), 3);
        x.pass(1);
        Due.is("one tick is too few", x.does(0), 3);
        x.pass(1);
        Due.is("two are enough", x.does(0), 1);
        Due.is("down will step back", x.does(1), 4);
        Due.is("up stayed", x.person(0, 8), 2);
        Due.is("down too", x.person(1, 8), 2);
        x.pass(1);
        Due.is("up is on 6", x.person(0, 3), 6);
        Due.is("down on 7", x.person(1, 3), 7);
        Due.is("the stay is over", x.person(0, 8), 0);
        Due.is("for both", x.person(1, 8), 0);
        Due.is("patience begins again", x.does(0), 3);
        Due.is("up waited", x.person(0, 4), 2);
        x.set(2, 0);
        Due.is("no patience", x.does(0), 1);
    }
}

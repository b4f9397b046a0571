/** The terms of a tick: who acts when, who yields to whom, who is sent off. */
public final class TickTest {
    private static final String TICK = "Terms, a tick";
    private static final int NOT_POSSIBLE = -5, NONE = -6;

    public static void main(String[] args) {
        highestFirst();
        ofSeveralByNumbers();
        higherFindsTheStepFull();
        steppedBackDoesNotActAnyMore();
        sentOffDoesNotActAnyMore();
        twiceInATick();
        backAndOffInATick();
        firstStepFromAHall();
        beyondTheLastStep();
        goesWhereThereIsRoom();
        goesOnALandingWithTheLastRoom();
        yieldsOnAStep();
        sameWayDoesNotYield();
        lowestOnLandingYields();
        lowestOfThoseWhoYield();
        lowestNumberOfOneRank();
        onlyTheOtherWayOnALanding();
        nobodyOnTheLandingYields();
        staysOtherwise();
        toWhomOneYields();
        toWhomOneYieldsOnALanding();
        patience();
        patienceOfNine();
        patienceOneBehindTheOther();
        noPatience();
        noRoomBehind();
        roomOnALandingBehind();
        noRoomBehindALanding();
        offTheLowestStep();
        offTheHighestStep();
        notOffTheStepBeforeTheLast();
        forGood();
        bows();
        yieldsAreCounted();
        ticksAreCounted();
        Due.end();
    }

    private static void highestFirst() {
        Due.of(TICK, "the people who wait or stand on a step act, each once, in the order of their ranks, the highest first");
        StairBows x = new StairBows();
        for (int rank = 1; rank <= 9; rank++) {
            x.come(rank, true);
        }
        x.pass(1);
        Due.stepsAre("the highest goes, one step", x, NONE, NONE, NONE, NONE, NONE, NONE, NONE, NONE, 0);
        x.pass(8);
        Due.stepsAre("the others follow by their ranks", x, 0, 1, 2, 3, 4, 5, 6, 7, 8);
        for (int rank = 1; rank <= 9; rank++) {
            Due.is("the waits of rank " + rank, x.person(rank - 1, 4), 9 - rank);
        }
    }

    private static void ofSeveralByNumbers() {
        Due.of(TICK, "of several by their numbers");
        StairBows x = new StairBows();
        x.come(2, true);
        x.come(7, true);
        x.come(7, true);
        x.come(7, true);
        x.pass(1);
        Due.stepsAre("the lowest number of the highest", x, NONE, 0, NONE, NONE);
        x.pass(1);
        Due.stepsAre("then the next", x, NONE, 1, 0, NONE);
        x.pass(2);
        Due.stepsAre("the lowest rank last", x, 0, 3, 2, 1);
    }

    private static void higherFindsTheStepFull() {
        Due.of(TICK, "in the order of their ranks", "one who goes on does not make room for a higher one in that tick");
        StairBows x = new StairBows();
        x.come(1, true);
        x.pass(1);
        x.come(9, true);
        x.pass(1);
        Due.stepsAre("the higher one stays", x, 1, NONE);
        Due.is("its waits", x.person(1, 4), 1);
        x = new StairBows();
        x.come(9, true);
        x.pass(1);
        x.come(1, true);
        x.pass(1);
        Due.stepsAre("the lower one follows at once", x, 1, 0);
        Due.is("its waits", x.person(1, 4), 0);
    }

    private static void steppedBackDoesNotActAnyMore() {
        Due.of(TICK, "Who has stepped back, or was sent off, in this tick does not act any more in it.", "stepped back");
        StairBows x = Scenes.meeting(2, 7);
        x.pass(1);
        Due.stepsAre("up stepped back", x, 4, 5);
        Due.is("and did not wait", x.person(0, 4), 0);
        Due.is("nor stay", x.person(0, 8), 0);
        x = Scenes.facingCrowd(9, 4);
        x.pass(1);
        Due.stepsAre("down stepped back, and up went on", x, 5, 4);
        Due.is("down did not wait", x.person(0, 4), 0);
    }

    private static void sentOffDoesNotActAnyMore() {
        Due.of(TICK, "Who has stepped back, or was sent off, in this tick does not act any more in it.", "sent off");
        StairBows x = Scenes.lowOneAtTheBottom();
        Due.is("does", x.does(1), 5);
        x.pass(1);
        Due.personIs("sent off", x, 1, 1, 1, 3, NONE, 0, 1, 6, 12, 0);
    }

    private static void twiceInATick() {
        Due.of(TICK, "Who steps back [..] bows [..] times, and its yields become 1 more.", "twice in a tick");
        StairBows x = Scenes.fullLanding(8, 2);
        x.turn(0);
        Due.is("steps back", x.does(1), 4);
        x.pass(1);
        Due.stepsAre("rank 9 on 4, rank 8 on 5", x, 5, 6, 4);
        Due.is("two yields", x.person(1, 5), 2);
        Due.is("8 and 7 bows", x.person(1, 6), 15);
        Due.is("no waits", x.person(1, 4), 0);
    }

    private static void backAndOffInATick() {
        Due.of(TICK, "off the last step against the own way one is sent off the stairs", "behind a step back in the same tick");
        StairBows x = new StairBows();
        x.landing(10, true);
        x.come(9, true);
        x.pass(7);
        x.come(8, false);
        x.pass(1);
        x.come(2, false);
        x.pass(2);
        Due.stepsAre("two on 10", x, 9, 10, 10);
        x.turn(1);
        Due.is("at last it is sent off", x.does(2), 5);
        x.pass(1);
        Due.stepsAre("rank 9 on 10, rank 8 on 11", x, 10, 11, NONE);
        Due.personIs("two yields, 8 and 7 bows", x, 2, 2, 0, 3, NONE, 0, 2, 15, 11, 0);
    }

    private static void firstStepFromAHall() {
        Due.of(TICK, "from a hall the first one of the way: 0 up, 11 down");
        StairBows x = new StairBows();
        x.come(5, true);
        x.come(5, false);
        x.pass(1);
        Due.stepsAre("the first steps", x, 0, 11);
        x.pass(1);
        Due.stepsAre("the next ones", x, 1, 10);
    }

    private static void beyondTheLastStep() {
        Due.of(TICK, "beyond the last one is the other hall. Then 1. if the next is the hall, the person arrives;");
        for (boolean goesUp : new boolean[] {true, false}) {
            StairBows x = Scenes.stairsOfLandings();
            x.come(5, goesUp);
            x.come(6, goesUp);
            Due.is("12 steps: " + goesUp, x.pass(12), 0);
            Due.stepsAre("both on the last step", x, goesUp ? 11 : 0, goesUp ? 11 : 0);
            x.come(1, !goesUp);
            Due.is("both arrive, and one comes out of that hall", x.pass(1), 2);
            Due.is("0 has arrived", x.person(0, 2), 2);
            Due.is("1 has arrived", x.person(1, 2), 2);
            Due.stepsAre("nobody is on the last step but who came", x, NONE, NONE, goesUp ? 11 : 0);
        }
        StairBows x = Scenes.atTheTick(0);
        x.come(5, true);
        x.pass(1);
        x.turn(0);
        Due.is("who turned on the lowest step arrives in the lower hall", x.pass(1), 1);
    }

    private static void goesWhereThereIsRoom() {
        Due.of(TICK, "2. otherwise, if the next step has room, the person goes there;");
        StairBows x = Scenes.fullLanding(5, 3);
        x.set(0, 3);
        x.pass(1);
        Due.stepsAre("up goes on the landing, and nobody steps back", x, 3, 4, 4);
        Due.is("nobody bows", x.count(10), 0);
    }

    private static void goesOnALandingWithTheLastRoom() {
        Due.of(TICK, "if the next step has room", "just one more, and none");
        int[][] crowds = {{3}, {3, 3}, {3, 3, 3}};
        for (int[] crowd : crowds) {
            StairBows x = Scenes.facingCrowd(9, crowd);
            x.set(0, crowd.length + 1);
            x.pass(1);
            Due.is("with room for one more nobody bows", x.count(10), 0);
            Due.is("and up goes there", x.person(crowd.length, 3), 4);
            x.undo();
            x.undo();
            x.pass(1);
            Due.is("with no room somebody bows", x.count(11), 1);
            Due.is("and up goes there, too", x.person(crowd.length, 3), 4);
        }
    }

    private static void yieldsOnAStep() {
        Due.of(TICK, "3. otherwise, if it is no landing, and the one who stands there goes the other way, and yields to the person, this one steps back, and the person goes to the next step");
        StairBows x = Scenes.meeting(2, 7);
        x.pass(1);
        Due.stepsAre("up steps back", x, 4, 5);
        x.pass(1);
        Due.stepsAre("and once more", x, 3, 4);
        x = Scenes.meeting(7, 2);
        x.pass(1);
        Due.stepsAre("down steps back", x, 6, 7);
        x.pass(1);
        Due.stepsAre("and once more", x, 7, 8);
    }

    private static void sameWayDoesNotYield() {
        Due.of(TICK, "the one who stands there goes the other way");
        for (boolean goUp : new boolean[] {true, false}) {
            StairBows x = new StairBows();
            x.come(1, goUp);
            x.pass(1);
            x.come(9, goUp);
            Due.is("the higher one behind stays", x.does(1), 3);
            Due.is("the lower one is not disturbed", x.does(0), 1);
        }
    }

    private static void lowestOnLandingYields() {
        Due.of(TICK, "if it is a landing, [..] the one who steps back is [..] the one with the lowest rank");
        StairBows x = Scenes.fullLanding(5, 3);
        x.pass(1);
        Due.stepsAre("the lower one of two steps back, the higher goes on", x, 3, 5, 4);
        Due.is("7 bows", x.person(1, 6), 7);
        Due.is("no bows of the other", x.person(0, 6), 0);
        x = Scenes.facingCrowd(9, 6, 7, 3, 4);
        x.pass(1);
        Due.stepsAre("the lowest of four steps back", x, 4, 3, 5, 4, 4);
    }

    private static void lowestOfThoseWhoYield() {
        Due.of(TICK, "of those there who go the other way and yield, the one with the lowest rank");
        StairBows x = Scenes.facingCrowd(5, 9, 4);
        x.pass(1);
        Due.stepsAre("4 yields to 5, 9 does not", x, 4, 5, 4);
        x = Scenes.facingCrowd(5, 2, 4, 1);
        x.turn(2);
        x.turn(0);
        x.pass(1);
        Due.stepsAre("the lower ones go its way, and go on", x, 5, 5, 5, 4);
        Due.is("only the highest bows", x.person(1, 6), 2);
        Due.is("nobody else does", x.count(10), 2);
    }

    private static void lowestNumberOfOneRank() {
        Due.of(TICK, "of several the one with the lowest number");
        StairBows x = Scenes.fullLanding(6, 6);
        x.pass(1);
        Due.stepsAre("the lower of two numbers", x, 5, 3, 4);
        Due.is("4 bows", x.person(0, 6), 4);
        x = Scenes.facingCrowd(9, 6, 3, 3, 3);
        x.pass(1);
        Due.stepsAre("the lowest of three numbers", x, 3, 5, 4, 4, 4);
    }

    private static void onlyTheOtherWayOnALanding() {
        Due.of(TICK, "of those there who go the other way");
        StairBows x = Scenes.fullLanding(5, 3);
        x.turn(1);
        x.pass(1);
        Due.stepsAre("who goes down steps back, though its rank is higher", x, 5, 4, 4);
        Due.is("5 bows", x.person(0, 6), 5);
        Due.is("who goes up is held", x.person(1, 8), 1);
    }

    private static void nobodyOnTheLandingYields() {
        Due.of(TICK, "and so if it is a landing [..]; 4. otherwise the person stays", "where nobody there yields");
        StairBows x = Scenes.fullLanding(5, 3);
        x.turn(0);
        x.turn(1);
        Due.is("all go one way", x.does(2), 3);
        Due.is("nobody bows", x.ifPassed(1, 2), 0);
        x = Scenes.facingCrowd(5, 6, 9);
        Due.is("those there are higher", x.does(2), 3);
    }

    private static void staysOtherwise() {
        Due.of(TICK, "4. otherwise the person stays, and its waits become 1 more.");
        StairBows x = new StairBows();
        Scenes.jam(x);
        Due.stepsAre("nobody waited so far", x, 2, 3, 1);
        for (int waits = 1; waits <= 3; waits++) {
            x.pass(1);
            Due.stepsAre("nobody moves", x, 2, 3, 1);
            for (int number = 0; number < 3; number++) {
                Due.is("the waits of " + number, x.person(number, 4), waits);
                Due.is("the stay of " + number, x.person(number, 8), waits);
            }
        }
        Due.is("all waits", x.count(12), 9);
    }

    private static void toWhomOneYields() {
        Due.of(TICK, "Somebody yields to a person with a higher rank, or with the same rank, if the person goes down");
        for (int up = 1; up <= 9; up++) {
            for (int down = 1; down <= 9; down++) {
                StairBows x = Scenes.meeting(up, down);
                x.pass(1);
                String who = "up " + up + ", down " + down;
                Due.stepsAre(who, x, up > down ? 6 : 4, up > down ? 7 : 5);
                Due.is(who + ": the yields of up", x.person(0, 5), up > down ? 0 : 1);
                Due.is(who + ": the yields of down", x.person(1, 5), up > down ? 1 : 0);
            }
        }
    }

    private static void toWhomOneYieldsOnALanding() {
        Due.of(TICK, "Somebody yields to a person with a higher rank, or with the same rank, if the person goes down", "on a landing");
        StairBows x = Scenes.facingCrowd(5, 5, 5);
        Due.is("of the same rank down does not yield to up", x.does(2), 3);
        x = Scenes.facingCrowd(5, 5, 4);
        Due.is("a lower one does", x.does(2), 1);
        x = Scenes.stairsOfLandings();
        x.come(5, false);
        x.come(5, false);
        x.pass(1);
        x.come(5, false);
        x.pass(1);
        x.come(1, false);
        x.pass(2);
        Due.stepsAre("two on 8, one on 9, one behind", x, 8, 8, 9, 10);
        x.turn(0);
        x.turn(1);
        x.landing(9, false);
        x.landing(10, false);
        x.pass(1);
        Due.stepsAre("of the same rank up yields to down", x, 7, 8, 8, 9);
    }

    private static void patience() {
        Due.of(TICK, "and only if the person stayed in PATIENCE ticks or more, [..] just ahead of this tick");
        for (int patience = 1; patience <= 9; patience++) {
            StairBows x = Scenes.meeting(8, 3);
            x.set(2, patience);
            for (int stayed = 0; stayed < patience; stayed++) {
                Due.is(stayed + " ticks are too few for " + patience, x.does(0), 3);
                x.pass(1);
                Due.is("it stayed", x.person(0, 8), stayed + 1);
            }
            Due.is("as many are enough", x.does(0), 1);
            Due.is("down will step back", x.does(1), 4);
            x.pass(1);
            Due.stepsAre("up went on", x, 6, 7);
            Due.is("its stay is over", x.person(0, 8), 0);
            Due.is("so the patience begins again", x.does(0), 3);
        }
    }

    private static void patienceOfNine() {
        Due.of(TICK, "in PATIENCE ticks or more", "more");
        StairBows x = Scenes.meeting(8, 3);
        x.set(2, 9);
        x.pass(4);
        x.set(2, 3);
        Due.is("four ticks are more than three", x.does(0), 1);
        x.set(2, 4);
        Due.is("and as many as four", x.does(0), 1);
        x.set(2, 5);
        Due.is("and less than five", x.does(0), 3);
    }

    private static void patienceOneBehindTheOther() {
        Due.of(TICK, "one behind the other");
        StairBows x = new StairBows();
        x.set(2, 2);
        x.come(8, false);
        x.come(8, false);
        x.pass(2);
        Due.stepsAre("one behind the other", x, 10, 11);
        Due.is("1 waited in the hall", x.person(1, 4), 1);
        x.turn(0);
        x.pass(1);
        Due.is("1 waited twice", x.person(1, 4), 2);
        Due.is("but stayed once just now", x.person(1, 8), 1);
        Due.is("which is too few", x.does(1), 3);
        x.pass(1);
        Due.is("twice is enough", x.does(1), 1);
    }

    private static void noPatience() {
        Due.of(TICK, "(with PATIENCE as 0 always)");
        StairBows x = Scenes.meeting(8, 3);
        Due.is("it never stayed", x.person(0, 8), 0);
        Due.is("and goes on", x.does(0), 1);
        x.set(2, 1);
        Due.is("with 1 it stays", x.does(0), 3);
        x.set(2, 0);
        Due.is("with 0 again it goes on", x.does(0), 1);
    }

    private static void noRoomBehind() {
        Due.of(TICK, "To step back is to go one step against the own way, if there is room there; if there is none, the one who should step back does not [..], and 4 holds for the person");
        StairBows x = new StairBows();
        Scenes.jam(x);
        x.pass(1);
        Due.stepsAre("nobody moves", x, 2, 3, 1);
        Due.is("nobody bows", x.count(10), 0);
        Due.is("nobody yields", x.count(11), 0);
        Due.is("up waits", x.person(2, 4), 1);
        x.turn(1);
        x.pass(1);
        Due.stepsAre("the one behind acts too late", x, 2, 4, 1);
        x.pass(1);
        Due.stepsAre("with room behind up goes on", x, 3, 5, 2);
    }

    private static void roomOnALandingBehind() {
        Due.of(TICK, "if there is room there", "on a landing, the last room, and none");
        for (int holds = 1; holds <= 4; holds++) {
            for (int behind = 0; behind <= holds; behind++) {
                StairBows x = Scenes.stairsOfLandings();
                x.set(0, holds);
                x.come(3, true);
                x.come(9, false);
                x.pass(1);
                for (int i = 0; i < behind; i++) {
                    x.come(2, true);
                }
                x.pass(5);
                x.landing(5, false);
                x.landing(6, false);
                Due.stepsAre("they meet", x, 5, 6);
                Due.is("so many are behind", x.step(4, 1), behind);
                boolean isRoom = behind < holds;
                Due.is("down goes on", x.does(1), isRoom ? 1 : 3);
                Due.is("up steps back", x.does(0) == 4 ? 1 : 0, isRoom ? 1 : 0);
                Due.is("bows", x.ifPassed(1, 2), isRoom ? 7 : 0);
            }
        }
    }

    private static void noRoomBehindALanding() {
        Due.of(TICK, "if there is none, the one who should step back does not (whether others could or not), and 4 holds for the person");
        StairBows x = new StairBows();
        x.come(5, false);
        x.come(3, false);
        x.come(2, false);
        x.pass(5);
        x.come(9, true);
        x.pass(4);
        Due.stepsAre("two on 4, one behind, up on 3", x, 4, 4, 5, 3);
        Due.is("up stays", x.does(3), 3);
        Due.is("for ever", x.untilEmpty(), NONE);
        Due.is("with no bows", x.ifPassed(200, 2), 0);
        x.set(StairBows.HOLDS, 3);
        Due.is("with more room up goes there", x.does(3), 1);
        x.undo();
        x.landing(5, true);
        Due.is("with room behind too", x.does(3), 1);
        Due.is("and the lowest on 4 steps back", x.does(1), 4);
        Due.is("the one on 5 does not", x.does(2), 1);
    }

    private static void offTheLowestStep() {
        Due.of(TICK, "off the last step against the own way one is sent off the stairs", "off the step 0");
        StairBows x = Scenes.lowOneAtTheBottom();
        x.pass(1);
        Due.stepsAre("down on 0, up on none", x, 0, NONE);
        Due.is("sent off", x.person(1, 2), 3);
        Due.is("counted", x.count(8), 1);
        Due.is("down arrives", x.pass(1), 1);
    }

    private static void offTheHighestStep() {
        Due.of(TICK, "off the last step against the own way one is sent off the stairs", "off the step 11");
        StairBows x = Scenes.lowOneAtTheTop();
        x.pass(1);
        Due.stepsAre("up on 11, down on none", x, 11, NONE);
        Due.is("sent off", x.person(1, 2), 3);
        Due.is("counted", x.count(8), 1);
        Due.is("up arrives", x.pass(1), 1);
    }

    private static void notOffTheStepBeforeTheLast() {
        Due.of(TICK, "To step back is to go one step against the own way", "to the last step, and not off it");
        StairBows x = new StairBows();
        x.come(6, false);
        x.pass(8);
        x.come(1, true);
        x.pass(2);
        Due.stepsAre("up on 1", x, 2, 1);
        x.pass(1);
        Due.stepsAre("up on 0", x, 1, 0);
        Due.is("on a step", x.person(1, 2), 1);
        x = new StairBows();
        x.come(6, true);
        x.pass(8);
        x.come(1, false);
        x.pass(2);
        Due.stepsAre("down on 10", x, 9, 10);
        x.pass(1);
        Due.stepsAre("down on 11", x, 10, 11);
        Due.is("on a step", x.person(1, 2), 1);
    }

    private static void forGood() {
        Due.of(TICK, "one is sent off the stairs, for good");
        StairBows x = Scenes.lowOneAtTheBottom();
        x.pass(1);
        Due.is("it never arrives", x.untilArrived(1), NONE);
        Due.is("it does nothing", x.does(1), 0);
        Due.is("it can't turn", x.turn(1), NOT_POSSIBLE);
        Due.is("only the other one arrives", x.pass(99), 1);
        Due.personIs("it stays as it was", x, 1, 1, 1, 3, NONE, 0, 1, 6, 12, 0);
    }

    private static void bows() {
        Due.of(TICK, "Who steps back, or is sent off so, bows BOWS * (the difference of both ranks, and 1, together) times");
        for (int bows = 1; bows <= 5; bows++) {
            for (int low = 1; low <= 9; low++) {
                StairBows x = Scenes.meeting(low, 9);
                x.set(1, bows);
                x.pass(1);
                Due.is("up " + low + ", down 9, BOWS " + bows, x.person(0, 6), bows * (9 - low + 1));
                Due.is("who goes on does not bow", x.person(1, 6), 0);
            }
            StairBows x = Scenes.meeting(9, 1);
            x.set(1, bows);
            Due.is("down 1, up 9, BOWS " + bows, x.ifPassed(1, 2), bows * 9);
            x = Scenes.lowOneAtTheBottom();
            x.set(1, bows);
            x.pass(1);
            Due.is("sent off, BOWS " + bows, x.person(1, 6), bows * 6);
        }
    }

    private static void yieldsAreCounted() {
        Due.of(TICK, "and its yields become 1 more");
        StairBows x = Scenes.meeting(2, 7);
        for (int yields = 1; yields <= 5; yields++) {
            x.pass(1);
            Due.is("the yields of up", x.person(0, 5), yields);
            Due.is("the bows of up", x.person(0, 6), 6 * yields);
            Due.is("on the step", x.person(0, 3), 5 - yields);
        }
        x.pass(1);
        Due.is("sent off with one more", x.person(0, 5), 6);
        Due.is("sent off", x.person(0, 2), 3);
        Due.is("all yields", x.count(11), 6);
        Due.is("the yields of down", x.person(1, 5), 0);
    }

    private static void ticksAreCounted() {
        Due.of(TICK, "Then the count of ticks becomes 1 more.");
        StairBows x = new StairBows();
        x.pass(1);
        Due.is("also with nobody there", x.count(3), 1);
        x.come(5, true);
        x.pass(1);
        Due.is("with one there", x.count(3), 2);
        x.pass(99);
        Due.is("with one who has arrived", x.count(3), 101);
    }
}

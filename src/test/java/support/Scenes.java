/** Staircases on which the tests begin. */
final class Scenes {
    private Scenes() {
    }

    static StairBows stairsWithout(int... landings) {
        StairBows x = new StairBows();
        for (int step : landings) {
            x.landing(step, false);
        }
        return x;
    }

    static StairBows stairsOfLandings() {
        StairBows x = new StairBows();
        for (int step = 0; step < 12; step++) {
            x.landing(step, true);
        }
        return x;
    }

    /** One who goes up (0) on the step 5, and one who goes down (1) on 6; no landings, the tick 6; nobody waited. */
    static StairBows meeting(int upRank, int downRank) {
        StairBows x = stairsWithout(4, 8);
        x.come(upRank, true);
        x.come(downRank, false);
        x.pass(6);
        Due.stepsAre("they meet", x, 5, 6);
        return x;
    }

    /** The landing 0, which holds 4: one of rank 1 who goes down (0), and two of rank 3 who go up (1 and 2). */
    static StairBows threeOnLanding() {
        StairBows x = new StairBows();
        x.landing(0, true);
        x.set(StairBows.HOLDS, 4);
        x.come(1, true);
        x.pass(2);
        x.turn(0);
        x.come(3, true);
        x.come(3, true);
        x.pass(1);
        Due.stepsAre("three on the landing", x, 0, 0, 0);
        return x;
    }

    /** Two who go down fill the landing 4, at the tick 9; one of rank 9 (2) stands on the step 3, and goes up. */
    static StairBows fullLanding(int firstRank, int secondRank) {
        StairBows x = new StairBows();
        fillLanding(x, firstRank, secondRank);
        Due.stepsAre("the landing is full", x, 4, 4, 3);
        return x;
    }

    static void fillLanding(StairBows x, int firstRank, int secondRank) {
        x.come(firstRank, false);
        x.pass(1);
        x.come(secondRank, false);
        x.pass(4);
        x.come(9, true);
        x.pass(4);
    }

    /**
     * A crowd (0, 1, ..) that goes down fills the landing 4. On the step 3 stands one who goes up (the next number), and
     * behind it, on the step 2, another one, so that it can't be made to step back. The tick 7; nobody waited.
     */
    static StairBows facingCrowd(int walkerRank, int... crowdRanks) {
        StairBows x = stairsOfLandings();
        x.set(StairBows.HOLDS, crowdRanks.length);
        for (int rank : crowdRanks) {
            x.come(rank, true);
        }
        x.pass(3);
        x.come(walkerRank, true);
        x.pass(1);
        x.come(1, true);
        x.pass(2);
        for (int number = 0; number < crowdRanks.length; number++) {
            x.turn(number);
        }
        x.pass(1);
        x.landing(2, false);
        x.landing(3, false);
        Due.is("so many are on 4", x.step(4, 1), crowdRanks.length);
        Due.is("which is full", x.step(4, 2), 0);
        Due.is("one who goes up is on 3", x.step(3, 3), crowdRanks.length);
        Due.is("another one is on 2", x.step(2, 3), crowdRanks.length + 1);
        return x;
    }

    /** Two who go down (0 on the step 2, 1 on the step 3) and one of rank 9 who goes up (2, on 1) can't move, ever. */
    static void jam(StairBows x) {
        x.come(1, false);
        x.pass(1);
        x.come(1, false);
        x.pass(7);
        x.come(9, true);
        x.pass(2);
    }

    /** Rank 6 goes down (0, on the step 1), rank 1 goes up (1, on 0), at the tick 11. */
    static StairBows lowOneAtTheBottom() {
        StairBows x = new StairBows();
        x.come(6, false);
        x.pass(10);
        x.come(1, true);
        x.pass(1);
        Due.stepsAre("they meet at the bottom", x, 1, 0);
        return x;
    }

    /** Rank 6 goes up (0, on the step 10), rank 5 goes down (1, on 11), at the tick 11. */
    static StairBows lowOneAtTheTop() {
        StairBows x = new StairBows();
        x.come(6, true);
        x.pass(10);
        x.come(5, false);
        x.pass(1);
        Due.stepsAre("they meet at the top", x, 10, 11);
        return x;
    }

    static StairBows crowdOf(int people) {
        StairBows x = new StairBows();
        bring(x, people);
        return x;
    }

    /** People of rank 5 who go up. */
    static void bring(StairBows x, int people) {
        for (int i = 0; i < people; i++) {
            x.come(5, true);
        }
    }

    static StairBows atTheTick(int tick) {
        StairBows x = new StairBows();
        passTo(x, tick);
        return x;
    }

    static void passTo(StairBows x, int tick) {
        for (int left = tick; left > 0; left -= 99) {
            x.pass(Math.min(left, 99));
        }
    }
}

/** Staircases on which the tests begin. */
final class Scenes {
    private Scenes() {
    }

    static StairBows stairsWithout(int... landings) {
        StairBows x = new StairBows();
        for (int step : landings) {
            x.landing(step, false);
        }
        return x;
    }

    /** The landing 0, which holds 4: one of rank 1 who goes down (0), and two of rank 3 who go up (1 and 2). */
    static StairBows threeOnLanding() {
        StairBows x = new StairBows();
        x.landing(0, true);
        x.set(StairBows.HOLDS, 4);
        x.come(1, true);
        x.pass(2);
        x.turn(0);
        x.come(3, true);
        x.come(3, true);
        x.pass(1);
        for (int person = 0; person < 3; person++) {
            Due.is("person(" + person + ", 3)", x.person(person, 3), 0);
        }
        return x;
    }

    /** Two who go down fill the landing 4, at the tick 9; one of rank 9 (2) stands on the step 3, and goes up. */
    static StairBows fullLanding(int firstRank, int secondRank) {
        StairBows x = new StairBows();
        x.come(firstRank, false);
        x.pass(1);
        x.come(secondRank, false);
        x.pass(4);
        x.come(9, true);
        x.pass(4);
        Due.is("the first is on 4", x.person(0, 3), 4);
        Due.is("the second is on 4", x.person(1, 3), 4);
        Due.is("the one who goes up is on 3", x.person(2, 3), 3);
        return x;
    }
}

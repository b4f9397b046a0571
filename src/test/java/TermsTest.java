import java.util.function.Consumer;

/** The terms ahead of the promises: conventions, settings, the staircase. */
public final class TermsTest {
    private static final int NO_SUCH = -1, BAD_VALUE = -2, BAD_TEXT = -3, TOO_MANY = -4, NOT_POSSIBLE = -5, NONE = -6;

    public static void main(String[] args) {
        firstErrorThatApplies();
        refusedChangesChangeNothing();
        refusedCallsWhereAllIsFull();
        refusedQuestionsChangeNothing();
        questionsChangeNothing();
        noneOnlyIfNoErrorApplies();
        numberedFromZero();
        rangesOfSettings();
        twelveSteps();
        firstLandings();
        roomOnAnOrdinaryStep();
        roomOnALanding();
        numbersInOrderOfComing();
        numbersAreKept();
        ranks();
        halls();
        fiveHundredTwelveCalls();
        Due.end();
    }

    private static void firstErrorThatApplies() {
        Due.of("Terms, conventions", "it names its errors in the order in which they are checked, and the first one that applies is returned");
        StairBows x = Scenes.fullLanding(5, 3);
        Due.is("set(0, 0), where two stand on a landing", x.set(0, 0), BAD_VALUE);
        Due.is("landing(-1, false)", x.landing(-1, false), NO_SUCH);
        Due.is("person(3, 9)", x.person(3, 9), NO_SUCH);
        Due.is("step(12, 4)", x.step(12, 4), NO_SUCH);
        Due.is("restore(2), where nothing is saved", x.restore(2), BAD_VALUE);
        x = Scenes.crowdOf(24);
        Due.is("come(0, true), where 24 are", x.come(0, true), BAD_VALUE);
        Due.is("come(10, true), where 24 are", x.come(10, true), BAD_VALUE);
        x.put(Due.text("u1u"));
        Due.is("read(), with a fault and where 24 are", x.read(), BAD_TEXT);
        Due.putAll(x, "1".repeat(57));
        Due.is("put(0) on a full pad", x.put(0), BAD_VALUE);
        Due.is("put(127) on a full pad", x.put(127), BAD_VALUE);
        x = Scenes.atTheTick(9999);
        Due.is("pass(0), at the tick 9999", x.pass(0), BAD_VALUE);
        Due.is("pass(100), at the tick 9999", x.pass(100), BAD_VALUE);
    }

    /** People in halls, on steps and sent off, both slots, a history, a pad with a fault. */
    private static void busyPast(StairBows x) {
        x.come(6, false);
        x.pass(10);
        x.save(0);
        x.come(1, true);
        x.pass(2);
        x.save(1);
        x.come(3, true);
        x.come(2, false);
        x.pass(1);
        x.set(1, 4);
        x.put(Due.text("u7d"));
    }

    private static void refusedChangesChangeNothing() {
        Due.of("Terms, conventions", "A call that returns an error changes nothing.");
        Consumer<StairBows> past = TermsTest::busyPast;
        Twins.stayAlike("set(3, 1)", past, x -> x.set(3, 1), BAD_VALUE);
        Twins.stayAlike("set(0, 5)", past, x -> x.set(0, 5), BAD_VALUE);
        Twins.stayAlike("set(1, 6)", past, x -> x.set(1, 6), BAD_VALUE);
        Twins.stayAlike("set(2, 10)", past, x -> x.set(2, 10), BAD_VALUE);
        Twins.stayAlike("landing(12, true)", past, x -> x.landing(12, true), NO_SUCH);
        Twins.stayAlike("landing(4, true)", past, x -> x.landing(4, true), NOT_POSSIBLE);
        Twins.stayAlike("landing(3, false)", past, x -> x.landing(3, false), NOT_POSSIBLE);
        Twins.stayAlike("come(0, true)", past, x -> x.come(0, true), BAD_VALUE);
        Twins.stayAlike("come(10, false)", past, x -> x.come(10, false), BAD_VALUE);
        Twins.stayAlike("read()", past, StairBows::read, BAD_TEXT);
        Twins.stayAlike("turn(4)", past, x -> x.turn(4), NO_SUCH);
        Twins.stayAlike("turn(1) of one sent off", past, x -> x.turn(1), NOT_POSSIBLE);
        Twins.stayAlike("pass(0)", past, x -> x.pass(0), BAD_VALUE);
        Twins.stayAlike("pass(100)", past, x -> x.pass(100), BAD_VALUE);
        Twins.stayAlike("put(0)", past, x -> x.put(0), BAD_VALUE);
        Twins.stayAlike("put(\" 1\")", past, x -> x.put(Due.text(" 1")), BAD_VALUE);
        Twins.stayAlike("save(2)", past, x -> x.save(2), BAD_VALUE);
        Twins.stayAlike("restore(2)", past, x -> x.restore(2), BAD_VALUE);
        Twins.stayAlike("restore(0) with nothing in it", x -> x.come(4, true), x -> x.restore(0), NOT_POSSIBLE);
        Twins.stayAlike("undo() with nothing to undo", x -> x.put(Due.text("u7")), StairBows::undo, NOT_POSSIBLE);
    }

    private static void fullPast(StairBows x) {
        Scenes.fillLanding(x, 5, 3);
        x.put(Due.text("d5u"));
    }

    private static void refusedCallsWhereAllIsFull() {
        Due.of("Terms, conventions", "A call that returns an error changes nothing.", "where something is full");
        Twins.stayAlike("set(0, 1) with two on a landing", TermsTest::fullPast, x -> x.set(0, 1), NOT_POSSIBLE);
        Twins.stayAlike("landing(4, false) with two there", TermsTest::fullPast, x -> x.landing(4, false), NOT_POSSIBLE);
        Twins.stayAlike("come(5, true) with 24", x -> { Scenes.bring(x, 24); x.put('u'); }, x -> x.come(5, true), TOO_MANY);
        Twins.stayAlike("read() with 23 and 2 more", x -> { Scenes.bring(x, 23); Due.putAll(x, "u1d2"); }, StairBows::read, TOO_MANY);
        Twins.stayAlike("pass(2) at the tick 9998", x -> { Scenes.passTo(x, 9998); x.put('u'); }, x -> x.pass(2), TOO_MANY);
        Twins.stayAlike("put(\"d2\") with 59", x -> Due.putAll(x, "u1".repeat(29) + "u"), x -> x.put(Due.text("d2")), TOO_MANY);
    }

    private static void refusedQuestionsChangeNothing() {
        Due.of("Terms, conventions", "A call that returns an error changes nothing.", "of questions");
        Consumer<StairBows> past = TermsTest::busyPast;
        Twins.stayAlike("person(4, 0)", past, x -> x.person(4, 0), NO_SUCH);
        Twins.stayAlike("person(0, 9)", past, x -> x.person(0, 9), BAD_VALUE);
        Twins.stayAlike("step(12, 0)", past, x -> x.step(12, 0), NO_SUCH);
        Twins.stayAlike("step(0, 4)", past, x -> x.step(0, 4), BAD_VALUE);
        Twins.stayAlike("does(4)", past, x -> x.does(4), NO_SUCH);
        Twins.stayAlike("count(15)", past, x -> x.count(15), BAD_VALUE);
        Twins.stayAlike("untilArrived(4)", past, x -> x.untilArrived(4), NO_SUCH);
        Twins.stayAlike("ifPassed(201, 0)", past, x -> x.ifPassed(201, 0), BAD_VALUE);
        Twins.stayAlike("ifPassed(1, 4)", past, x -> x.ifPassed(1, 4), BAD_VALUE);
    }

    private static void questionsChangeNothing() {
        Due.of("Terms, the constants", "what there is; nothing changes / what if; nothing changes");
        Consumer<StairBows> past = TermsTest::busyPast;
        Twins.stayAlike("person(0, 3)", past, x -> x.person(0, 3), NONE);
        Twins.stayAlike("step(11, 3)", past, x -> x.step(11, 3), 3);
        Twins.stayAlike("does(3)", past, x -> x.does(3), 1);
        Twins.stayAlike("count(3)", past, x -> x.count(3), 13);
        Twins.stayAlike("untilArrived(3)", past, x -> x.untilArrived(3), 16);
        Twins.stayAlike("untilEmpty()", past, StairBows::untilEmpty, 16);
        Twins.stayAlike("ifPassed(200, 0)", past, x -> x.ifPassed(200, 0), 2);
        Twins.stayAlike("bestLanding()", past, StairBows::bestLanding, 6);
        Twins.stayAlike("fault()", past, StairBows::fault, 3);
    }

    private static void noneOnlyIfNoErrorApplies() {
        Due.of("Terms, conventions", "NONE (-6) is not an error; it is returned only if no error applies.");
        StairBows x = new StairBows();
        x.come(5, true);
        Due.is("person(0, 3) in the hall", x.person(0, 3), NONE);
        Due.is("person(1, 3) of nobody", x.person(1, 3), NO_SUCH);
        Due.is("person(0, 7) on the way", x.person(0, 7), NONE);
        Due.is("person(1, 7) of nobody", x.person(1, 7), NO_SUCH);
        Due.is("step(0, 3) of an empty step", x.step(0, 3), NONE);
        Due.is("step(12, 3) of no step", x.step(12, 3), NO_SUCH);
        Due.is("step(-1, 3) of no step", x.step(-1, 3), NO_SUCH);
        x = Scenes.lowOneAtTheBottom();
        Due.is("untilArrived(1) of one sent off", x.untilArrived(1), NONE);
        Due.is("untilArrived(2) of nobody", x.untilArrived(2), NO_SUCH);
        Due.is("untilArrived(-6) of nobody", x.untilArrived(-6), NO_SUCH);
    }

    private static void numberedFromZero() {
        Due.of("Terms, conventions", "Everything is numbered from 0.");
        StairBows x = new StairBows();
        Due.is("the first person", x.come(8, true), 0);
        Due.is("what 0 of a person", x.person(0, 0), 8);
        Due.is("the setting 0", x.set(0, 3), 2);
        Due.is("the count 0", x.count(0), 3);
        Due.is("the slot 0", x.save(0), 0);
        Due.is("the slot -1", x.save(-1), BAD_VALUE);
        Due.is("the step 0", x.landing(0, true), 3);
        Due.is("the step -1", x.landing(-1, true), NO_SUCH);
        Due.is("the person -1", x.person(-1, 0), NO_SUCH);
        x.put('x');
        Due.is("the character 0", x.fault(), 0);
    }

    private static void rangesOfSettings() {
        Due.of("Terms, settings", "HOLDS (1 to 4; 2): people on a landing.");
        rangeIs(0, 1, 4, 2);
        Due.of("Terms, settings", "BOWS (1 to 5; 1).");
        rangeIs(1, 1, 5, 1);
        Due.of("Terms, settings", "PATIENCE (0 to 9; 0).");
        rangeIs(2, 0, 9, 0);
    }

    private static void rangeIs(int setting, int least, int greatest, int first) {
        StairBows x = new StairBows();
        Due.is("the first value of " + setting, x.count(setting), first);
        Due.is("the least of " + setting, x.set(setting, least), first);
        Due.is("less of " + setting, x.set(setting, least - 1), BAD_VALUE);
        Due.is("the greatest of " + setting, x.set(setting, greatest), least);
        Due.is("more of " + setting, x.set(setting, greatest + 1), BAD_VALUE);
        Due.is("the value of " + setting + " then", x.count(setting), greatest);
    }

    private static void twelveSteps() {
        Due.of("Terms, the staircase", "There are 12 steps, 0 (the lowest one) to 11");
        StairBows x = new StairBows();
        for (int step = 0; step < 12; step++) {
            Due.is("step(" + step + ", 1)", x.step(step, 1), 0);
        }
        Due.is("step(-1, 1)", x.step(-1, 1), NO_SUCH);
        Due.is("step(12, 1)", x.step(12, 1), NO_SUCH);
        x.come(5, true);
        x.come(5, false);
        x.pass(1);
        Due.stepsAre("from the lower hall to the lowest, from the upper one to the highest", x, 0, 11);
        x = Scenes.crowdOf(1);
        Due.is("behind 12 steps there is the hall", x.untilArrived(0), 13);
    }

    private static void firstLandings() {
        Due.of("Terms, the staircase", "some are landings (at first the steps 4 and 8)");
        StairBows x = new StairBows();
        for (int step = 0; step < 12; step++) {
            Due.is("step(" + step + ", 0)", x.step(step, 0), step == 4 || step == 8 ? 1 : 0);
        }
    }

    private static void roomOnAnOrdinaryStep() {
        Due.of("Terms, the staircase", "another step [has room] for one");
        StairBows x = new StairBows();
        x.set(0, 4);
        Due.is("an empty step", x.step(0, 2), 1);
        x.come(5, true);
        x.come(5, true);
        x.pass(1);
        Due.is("a step with one", x.step(0, 2), 0);
        Due.stepsAre("one on the step, and one not", x, 0, NONE);
    }

    private static void roomOnALanding() {
        Due.of("Terms, the staircase", "A landing has room for HOLDS people");
        for (int holds = 1; holds <= 4; holds++) {
            StairBows x = new StairBows();
            Scenes.jam(x);
            x.set(0, holds);
            x.landing(0, true);
            for (int there = 0; there < holds; there++) {
                Due.is("the landing holds " + holds + ", and room there", x.step(0, 2), holds - there);
                x.come(5, true);
                x.pass(1);
                Due.is("people on the landing", x.step(0, 1), there + 1);
            }
            x.come(5, true);
            x.pass(9);
            Due.is("no more than " + holds + " on the landing", x.step(0, 1), holds);
            Due.is("no room there", x.step(0, 2), 0);
            Due.is("one has to wait in the hall", x.count(5), 1);
        }
    }

    private static void numbersInOrderOfComing() {
        Due.of("Terms, the staircase", "There are up to 24 people, with numbers from 0 in the order in which they came");
        StairBows x = new StairBows();
        for (int number = 0; number < 24; number++) {
            Due.is("come", x.come(1 + number % 9, number % 2 == 1), number);
        }
        Due.is("the 25th", x.come(1, true), TOO_MANY);
        for (int number = 0; number < 24; number++) {
            Due.is("the rank of " + number, x.person(number, 0), 1 + number % 9);
            Due.is("the way of " + number, x.person(number, 1), number % 2);
        }
    }

    private static void numbersAreKept() {
        Due.of("Terms, the staircase", "which they keep");
        StairBows x = Scenes.lowOneAtTheBottom();
        x.pass(9);
        Due.is("one arrived, and one was sent off", x.count(7) + x.count(8), 2);
        Due.is("the next comes behind them", x.come(4, true), 2);
        Due.is("the rank of 0", x.person(0, 0), 6);
        Due.is("the rank of 1", x.person(1, 0), 1);
        Due.is("the rank of 2", x.person(2, 0), 4);
        x = Scenes.crowdOf(24);
        x.pass(99);
        Due.is("all 24 have arrived", x.count(7), 24);
        Due.is("there are no more numbers", x.come(4, true), TOO_MANY);
    }

    private static void ranks() {
        Due.of("Terms, the staircase", "each with a rank, 1 to 9");
        StairBows x = new StairBows();
        Due.is("come(1, true)", x.come(1, true), 0);
        Due.is("come(9, true)", x.come(9, true), 1);
        Due.is("come(0, true)", x.come(0, true), BAD_VALUE);
        Due.is("come(10, true)", x.come(10, true), BAD_VALUE);
        Due.is("the rank of 0", x.person(0, 0), 1);
        Due.is("the rank of 1", x.person(1, 0), 9);
    }

    private static void halls() {
        Due.of("Terms, the staircase", "A person waits in the lower hall (to go up) or in the upper one (to go down), stands on a step, has arrived (in the other hall), or was sent off.");
        StairBows x = new StairBows();
        x.come(5, true);
        x.come(5, false);
        Due.is("two in halls", x.count(5), 2);
        x.pass(1);
        Due.stepsAre("up begins on 0, down on 11", x, 0, 11);
        Due.is("none in halls", x.count(5), 0);
        Due.is("two on steps", x.count(6), 2);
        x = Scenes.lowOneAtTheBottom();
        x.pass(2);
        Due.is("down has arrived", x.person(0, 2), 2);
        Due.is("up was sent off", x.person(1, 2), 3);
    }

    private static void fiveHundredTwelveCalls() {
        Due.of("What it is", "An object is used for at most 512 calls after it has been made");
        StairBows x = new StairBows();
        for (int i = 0; i < 511; i++) {
            Due.is("pass(1)", x.pass(1), 0);
        }
        Due.is("the 512th call", x.count(3), 511);
    }
}

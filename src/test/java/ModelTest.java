/** Runs of calls, made by a counter of fixed seeds, on StairBows and on the model: all answers have to be the same. */
public final class ModelTest {
    private static final int RUNS = 250;
    private static final int CALLS = 500;

    private long seed;

    private ModelTest(long seed) {
        this.seed = seed;
    }

    private int upTo(int bound) {
        seed = seed * 6364136223846793005L + 1442695040888963407L;
        return (int) ((seed >>> 33) % bound);
    }

    /** Mostly a value in the range, sometimes one just outside it or far off. */
    private int near(int least, int greatest) {
        int odd = upTo(40);
        if (odd == 0) {
            return least - 1;
        }
        if (odd == 1) {
            return greatest + 1;
        }
        if (odd == 2) {
            return upTo(2) == 0 ? Integer.MIN_VALUE : Integer.MAX_VALUE;
        }
        return least + upTo(greatest - least + 1);
    }

    private long characters() {
        int odd = upTo(25);
        if (odd == 0) {
            return seed;
        }
        long text = 0;
        int length = odd == 1 ? 1 + upTo(8) : 2 * (1 + upTo(4));
        for (int i = 0; i < length; i++) {
            int sign = i % 2 == 0 ? (upTo(2) == 0 ? 'u' : 'd') : '1' + upTo(9);
            if (upTo(60) == 0) {
                sign = new int[] {0, 32, 33, 126, 127, 255, '0', 'x'}[upTo(8)];
            }
            text = text << 8 | sign;
        }
        return text;
    }

    public static void main(String[] args) {
        for (int run = 0; run < RUNS && Due.wrongSoFar() == 0; run++) {
            new ModelTest(run).run(run);
        }
        Due.end();
    }

    private void run(int run) {
        StairBows x = new StairBows();
        Model y = new Model();
        int longPasses = upTo(3);
        for (int call = 0; call < CALLS && Due.wrongSoFar() == 0; call++) {
            String place = "run " + run + ", call " + call + ": ";
            if (upTo(5) < 2) {
                change(place, x, y, longPasses);
            } else {
                question(place, x, y);
            }
        }
    }

    private void change(String place, StairBows x, Model y, int longPasses) {
        int a, b;
        boolean is;
        switch (upTo(16)) {
            case 0:
                a = near(0, 2); b = near(0, 5);
                Due.is(place + "set(" + a + ", " + b + ")", x.set(a, b), y.set(a, b));
                break;
            case 1:
                a = near(0, 11); is = upTo(3) > 0;
                Due.is(place + "landing(" + a + ", " + is + ")", x.landing(a, is), y.landing(a, is));
                break;
            case 2: case 3: case 4:
                a = near(1, 9); is = upTo(2) == 0;
                Due.is(place + "come(" + a + ", " + is + ")", x.come(a, is), y.come(a, is));
                break;
            case 5:
                Due.is(place + "read()", x.read(), y.read());
                break;
            case 6:
                a = near(0, Math.max(0, y.count(4) - 1));
                Due.is(place + "turn(" + a + ")", x.turn(a), y.turn(a));
                break;
            case 7: case 8: case 9: case 10:
                a = longPasses == 2 ? near(30, 99) : longPasses == 1 ? near(1, 20) : near(1, 4);
                Due.is(place + "pass(" + a + ")", x.pass(a), y.pass(a));
                break;
            case 11:
                long text = characters();
                Due.is(place + "put(" + text + ")", x.put(text), y.put(text));
                break;
            case 12:
                if (upTo(4) == 0) {
                    Due.is(place + "wipe()", x.wipe(), y.wipe());
                }
                break;
            case 13:
                Due.is(place + "undo()", x.undo(), y.undo());
                break;
            case 14:
                a = near(0, 1);
                Due.is(place + "save(" + a + ")", x.save(a), y.save(a));
                break;
            default:
                a = near(0, 1);
                if (longPasses < 2 || upTo(10) == 0) {
                    Due.is(place + "restore(" + a + ")", x.restore(a), y.restore(a));
                }
                break;
        }
    }

    private void question(String place, StairBows x, Model y) {
        int a, b;
        int lastPerson = Math.max(0, y.count(4) - 1);
        switch (upTo(10)) {
            case 0: case 1:
                a = near(0, lastPerson); b = near(0, 8);
                Due.is(place + "person(" + a + ", " + b + ")", x.person(a, b), y.person(a, b));
                break;
            case 2:
                a = near(0, 11); b = near(0, 3);
                Due.is(place + "step(" + a + ", " + b + ")", x.step(a, b), y.step(a, b));
                break;
            case 3: case 4:
                a = near(0, lastPerson);
                Due.is(place + "does(" + a + ")", x.does(a), y.does(a));
                break;
            case 5:
                a = near(0, 14);
                Due.is(place + "count(" + a + ")", x.count(a), y.count(a));
                break;
            case 6:
                a = near(0, lastPerson);
                Due.is(place + "untilArrived(" + a + ")", x.untilArrived(a), y.untilArrived(a));
                break;
            case 7:
                Due.is(place + "untilEmpty()", x.untilEmpty(), y.untilEmpty());
                break;
            case 8:
                a = upTo(2) == 0 ? near(1, 8) : near(1, 200); b = near(0, 3);
                Due.is(place + "ifPassed(" + a + ", " + b + ")", x.ifPassed(a, b), y.ifPassed(a, b));
                break;
            default:
                if (upTo(4) == 0) {
                    Due.is(place + "bestLanding()", x.bestLanding(), y.bestLanding());
                } else {
                    Due.is(place + "fault()", x.fault(), y.fault());
                }
                break;
        }
    }
}

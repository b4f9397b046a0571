/** Promises 19 to 21: undo, and saved states. */
public final class HistoryTest {
    private static final int NO_SUCH = -1, BAD_VALUE = -2, NOT_POSSIBLE = -5;
    private static final int FAR_BELOW = Integer.MIN_VALUE, FAR_ABOVE = Integer.MAX_VALUE;

    public static void main(String[] args) {
        undo();
        saveAndRestore();
        Due.end();
    }

    private static void undo() {
        StairBows x = new StairBows();
        Due.is("nothing to undo", x.undo(), NOT_POSSIBLE);
        x.set(1, 4);
        x.landing(2, true);
        x.come(3, true);
        x.pass(5);
        x.turn(0);
        Due.countsAre("all", x, 2, 4, 0, 5, 1, 0, 1, 0, 0, 1 << 2 | 1 << 4 | 1 << 8, 0, 0, 0, 0, 5);
        Due.is("undo the turn", x.undo(), 4);
        Due.is("up again", x.person(0, 1), 1);
        Due.is("undo the ticks", x.undo(), 3);
        Due.is("at the tick 0", x.count(3), 0);
        Due.is("in the hall", x.person(0, 2), 0);
        Due.is("undo the coming", x.undo(), 2);
        Due.is("nobody", x.person(0, 0), NO_SUCH);
        Due.is("undo the landing", x.undo(), 1);
        Due.is("no landing", x.step(2, 0), 0);
        Due.is("undo the setting", x.undo(), 0);
        Due.countsAre("as new", x, 2, 1, 0, 0, 0, 0, 0, 0, 0, 1 << 4 | 1 << 8, 0, 0, 0, 0, 0);
        Due.is("nothing more", x.undo(), NOT_POSSIBLE);
        for (int i = 1; i <= 9; i++) {
            x.pass(i);
            Due.is("the history grows to six", x.count(14), Math.min(i, 6));
        }
        for (int i = 5; i >= 0; i--) {
            Due.is("undo()", x.undo(), i);
        }
        Due.is("the oldest ones were dropped", x.count(3), 6);
        Due.is("no more", x.undo(), NOT_POSSIBLE);
        x.put(Due.text("u9"));
        x.save(0);
        x.pass(1);
        x.save(0);
        x.undo();
        Due.is("the pad is not undone", x.count(13), 2);
        Due.is("nor are the slots", x.restore(0), 7);
    }

    private static void saveAndRestore() {
        StairBows x = new StairBows();
        for (int slot : new int[] {-1, 2, FAR_BELOW, FAR_ABOVE}) {
            Due.is("save(" + slot + ")", x.save(slot), BAD_VALUE);
            Due.is("restore(" + slot + ")", x.restore(slot), BAD_VALUE);
        }
        x.set(2, 3);
        x.come(5, true);
        x.pass(4);
        x.put(Due.text("u1d"));
        Due.is("save(1)", x.save(1), 4);
        Due.is("it is no change", x.count(14), 3);
        Due.is("nothing in 0", x.restore(0), NOT_POSSIBLE);
        x.set(2, 0);
        x.landing(1, true);
        x.turn(0);
        x.come(9, false);
        x.pass(3);
        x.wipe();
        Due.is("restore(1)", x.restore(1), 4);
        Due.countsAre("restored", x, 2, 1, 3, 4, 1, 0, 1, 0, 0, 1 << 4 | 1 << 8, 0, 0, 0, 0, 6);
        Due.is("up again", x.person(0, 1), 1);
        Due.is("on 3", x.person(0, 3), 3);
        Due.is("it is a change", x.undo(), 5);
        Due.is("undone", x.count(3), 7);
        Due.is("two people", x.count(4), 2);
        Due.is("the slot keeps it", x.restore(1), 4);
        x.pass(1);
        Due.is("and is not touched by what comes", x.restore(1), 4);
        x.pass(2);
        Due.is("save(0)", x.save(0), 6);
        Due.is("the other slot", x.restore(1), 4);
        Due.is("overwritten", x.save(0), 4);
        x.pass(9);
        Due.is("the last one counts", x.restore(0), 4);
    }
}

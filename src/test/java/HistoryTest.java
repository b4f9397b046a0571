import java.util.function.ToIntFunction;

/** Promises 19 to 21: undo, and saved states. */
public final class HistoryTest {
    private static final String UNDO = "Promise 19", SAVE = "Promise 20", RESTORE = "Promise 21";
    private static final int NO_SUCH = -1, BAD_VALUE = -2, NOT_POSSIBLE = -5, NONE = -6;
    private static final int FAR_BELOW = Integer.MIN_VALUE, FAR_ABOVE = Integer.MAX_VALUE;

    public static void main(String[] args) {
        undoWithNone();
        undoHowManyThen();
        undoAtMostSix();
        undoTheOldestIsDropped();
        undoEachChange();
        undoWhereNothingIsDifferent();
        undoRecordsNoErrors();
        undoRecordsNothingElse();
        undoEverything();
        undoOfPeople();
        undoLeavesThePad();
        undoLeavesTheSlots();
        undoIsNoChange();
        saveNoSuchSlot();
        saveReturnsTheTicks();
        saveOverwrites();
        saveIsNoChange();
        saveTwoSlots();
        saveLeavesOut();
        restoreNoSuchSlot();
        restoreWhereNothingWasSaved();
        restoreReturnsTheTicks();
        restoreEverything();
        restoreSlotKeepsIt();
        restoreIsAChange();
        restoreLeavesPadAndHistory();
        restoreMoreAndFewerPeople();
        restoreThoseWhoAreGone();
        Due.end();
    }

    // ---- promise 19

    private static void undoWithNone() {
        Due.of(UNDO, "NOT_POSSIBLE if there is none.");
        StairBows x = new StairBows();
        Due.is("on a new object", x.undo(), NOT_POSSIBLE);
        x.pass(1);
        Due.is("of one change", x.undo(), 0);
        Due.is("of none any more", x.undo(), NOT_POSSIBLE);
        Due.is("the ticks", x.count(3), 0);
        x.set(0, 9);
        Due.is("of an error", x.undo(), NOT_POSSIBLE);
    }

    private static void undoHowManyThen() {
        Due.of(UNDO, "Returns how many changes can be undone then");
        StairBows x = new StairBows();
        for (int i = 0; i < 4; i++) {
            x.pass(1);
        }
        for (int left = 3; left >= 0; left--) {
            Due.is("undo()", x.undo(), left);
            Due.is("count(14)", x.count(14), left);
            Due.is("the ticks", x.count(3), left);
        }
    }

    private static void undoAtMostSix() {
        Due.of(UNDO, "A history of at most 6 states is kept");
        StairBows x = new StairBows();
        for (int changes = 1; changes <= 20; changes++) {
            x.pass(1);
            Due.is("behind " + changes + " changes", x.count(14), Math.min(changes, 6));
        }
        for (int left = 5; left >= 0; left--) {
            Due.is("undo()", x.undo(), left);
        }
        Due.is("a seventh", x.undo(), NOT_POSSIBLE);
        Due.is("20 ticks and 6 undone", x.count(3), 14);
    }

    private static void undoTheOldestIsDropped() {
        Due.of(UNDO, "when one more is recorded, the oldest one is dropped");
        for (int changes = 6; changes <= 14; changes++) {
            StairBows x = new StairBows();
            int ticks = 0;
            for (int i = 1; i <= changes; i++) {
                x.pass(i);
                ticks += i;
            }
            for (int i = changes; i > changes - 6; i--) {
                x.undo();
                ticks -= i;
                Due.is("the latest first", x.count(3), ticks);
            }
            Due.is("the others are dropped", x.undo(), NOT_POSSIBLE);
        }
    }

    private static void undoEachChange() {
        Due.of(UNDO, "each method that is a change, and returns no error, records the state before it");
        undoOf("set", x -> x.set(1, 5));
        undoOf("landing, true", x -> x.landing(0, true));
        undoOf("landing, false", x -> x.landing(4, false));
        undoOf("come", x -> x.come(7, false));
        undoOf("read", StairBows::read);
        undoOf("turn", x -> x.turn(0));
        undoOf("pass", x -> x.pass(99));
        undoOf("restore", x -> x.restore(1));
    }

    /** One on the step 3, two saved states, and people on the pad. */
    private static void someState(StairBows x) {
        x.save(1);
        x.set(2, 3);
        x.come(5, true);
        x.come(4, true);
        x.pass(4);
        x.put(Due.text("u9d1"));
        x.save(0);
    }

    private static void undoOf(String name, ToIntFunction<StairBows> change) {
        StairBows x = new StairBows(), y = new StairBows();
        someState(x);
        someState(y);
        Due.isTrue(name + " is no error", change.applyAsInt(x) >= 0);
        Due.is(name + " is recorded", x.count(14), 5);
        Due.is(name + " is undone", x.undo(), 4);
        for (int what = 0; what < 15; what++) {
            if (what != 13) {
                Due.is(name + ", undo(): count(" + what + ")", x.count(what), y.count(what));
            }
        }
        for (int number = 0; number < 3; number++) {
            for (int what = 0; what < 9; what++) {
                Due.is(name + ", undo(): person(" + number + ", " + what + ")", x.person(number, what), y.person(number, what));
            }
        }
        for (int step = 0; step < 12; step++) {
            Due.is(name + ", undo(): step(" + step + ", 2)", x.step(step, 2), y.step(step, 2));
        }
    }

    private static void undoWhereNothingIsDifferent() {
        Due.of(UNDO, "(also if nothing is different then)");
        StairBows x = new StairBows();
        x.set(0, 2);
        Due.is("set to the same", x.count(14), 1);
        x.save(0);
        x.restore(0);
        Due.is("restore of the same", x.count(14), 2);
        x.restore(0);
        Due.is("once more", x.count(14), 3);
        Due.is("undo()", x.undo(), 2);
        Due.is("undo()", x.undo(), 1);
        Due.is("undo()", x.undo(), 0);
    }

    private static void undoRecordsNoErrors() {
        Due.of(UNDO, "each method that is a change, and returns no error");
        StairBows x = new StairBows();
        x.set(3, 0);
        x.set(0, 0);
        x.landing(12, true);
        x.landing(4, true);
        x.come(0, true);
        x.read();
        x.turn(0);
        x.pass(0);
        x.restore(0);
        x.restore(2);
        Due.is("errors are not recorded", x.count(14), 0);
        x.come(1, true);
        x.turn(0);
        Due.is("a change is", x.count(14), 1);
        x = Scenes.crowdOf(24);
        x.come(5, true);
        x.put(Due.text("u1"));
        x.read();
        Due.is("undo()", x.undo(), 5);
        Due.is("only the last who came is gone", x.count(4), 23);
        x = Scenes.fullLanding(5, 3);
        int changes = x.count(14);
        x.set(0, 1);
        x.landing(4, false);
        Due.is("nor are these, on a landing with two", x.count(14), changes);
        x = Scenes.atTheTick(9999);
        x.undo();
        x.pass(99);
        x.pass(1);
        Due.is("undo() at the tick 9999", x.undo(), 5);
        Due.is("the ticks", x.count(3), 9900);
    }

    private static void undoRecordsNothingElse() {
        Due.of(UNDO, "each method that is a change", "and no other one");
        StairBows x = new StairBows();
        x.come(5, true);
        x.person(0, 0);
        x.step(0, 0);
        x.does(0);
        x.count(0);
        x.untilArrived(0);
        x.untilEmpty();
        x.ifPassed(9, 0);
        x.bestLanding();
        x.put('u');
        x.fault();
        x.wipe();
        x.save(0);
        x.save(1);
        Due.is("only that one came", x.count(14), 1);
        x.undo();
        Due.is("undo() is not, too", x.count(14), 0);
    }

    private static void undoEverything() {
        Due.of(UNDO, "Undoes the latest change: everything except the pad, the slots and the history is as it was before it.");
        StairBows x = new StairBows();
        x.set(1, 4);
        x.landing(2, true);
        x.come(3, true);
        x.pass(5);
        x.turn(0);
        Due.countsAre("all", x, 2, 4, 0, 5, 1, 0, 1, 0, 0, 1 << 2 | 1 << 4 | 1 << 8, 0, 0, 0, 0, 5);
        Due.is("undo the turn", x.undo(), 4);
        Due.is("up again", x.person(0, 1), 1);
        Due.is("undo the ticks", x.undo(), 3);
        Due.is("at the tick 0", x.count(3), 0);
        Due.is("in the hall", x.person(0, 2), 0);
        Due.is("undo the coming", x.undo(), 2);
        Due.is("nobody", x.person(0, 0), NO_SUCH);
        Due.is("undo the landing", x.undo(), 1);
        Due.is("no landing", x.step(2, 0), 0);
        Due.is("undo the setting", x.undo(), 0);
        Due.countsAre("as new", x, 2, 1, 0, 0, 0, 0, 0, 0, 0, 1 << 4 | 1 << 8, 0, 0, 0, 0, 0);
    }

    private static void undoOfPeople() {
        Due.of(UNDO, "everything [..] is as it was before it", "all of the people");
        StairBows x = Scenes.meeting(2, 7);
        x.pass(3);
        Due.personIs("before", x, 0, 2, 1, 1, 2, 0, 3, 18, NONE, 0);
        x.pass(99);
        Due.personIs("sent off", x, 0, 2, 1, 3, NONE, 0, 6, 36, 12, 0);
        Due.personIs("arrived", x, 1, 7, 0, 2, NONE, 0, 0, 0, 13, 0);
        x.undo();
        Due.personIs("as before", x, 0, 2, 1, 1, 2, 0, 3, 18, NONE, 0);
        Due.personIs("the other one", x, 1, 7, 0, 1, 3, 0, 0, 0, NONE, 0);
        Due.is("one arrives once more", x.pass(99), 1);
        x = new StairBows();
        Scenes.jam(x);
        x.set(2, 9);
        x.pass(3);
        x.pass(4);
        Due.is("it stayed", x.person(2, 8), 7);
        x.undo();
        Due.is("as before", x.person(2, 8), 3);
        Due.is("its waits", x.person(2, 4), 3);
    }

    private static void undoLeavesThePad() {
        Due.of(UNDO, "everything except the pad");
        StairBows x = new StairBows();
        x.pass(1);
        x.put(Due.text("u9"));
        x.undo();
        Due.is("what was put stays", x.count(13), 2);
        Due.is("read()", x.read(), 1);
        x.undo();
        Due.is("what was read does not come back", x.count(13), 0);
        x.put(Due.text("u9"));
        x.pass(1);
        x.wipe();
        x.undo();
        Due.is("what was wiped does not, too", x.count(13), 0);
    }

    private static void undoLeavesTheSlots() {
        Due.of(UNDO, "everything except [..] the slots");
        StairBows x = new StairBows();
        x.pass(3);
        x.save(0);
        x.undo();
        Due.is("at the tick 0", x.count(3), 0);
        Due.is("the slot keeps the tick 3", x.restore(0), 3);
        x.undo();
        Due.is("the other slot is empty", x.restore(1), NOT_POSSIBLE);
    }

    private static void undoIsNoChange() {
        Due.of(UNDO, "Undoes the latest change", "and is none, and can't be undone");
        StairBows x = new StairBows();
        x.pass(1);
        x.pass(2);
        Due.is("undo()", x.undo(), 1);
        Due.is("undo() again", x.undo(), 0);
        Due.is("the ticks", x.count(3), 0);
        x.pass(5);
        Due.is("a change behind that", x.count(14), 1);
        x.undo();
        Due.is("the ticks again", x.count(3), 0);
    }

    // ---- promise 20

    private static void saveNoSuchSlot() {
        Due.of(SAVE, "BAD_VALUE if there is no such slot.");
        StairBows x = new StairBows();
        for (int slot : new int[] {-1, 2, FAR_BELOW, FAR_ABOVE}) {
            Due.is("save(" + slot + ")", x.save(slot), BAD_VALUE);
        }
        Due.is("save(0)", x.save(0), 0);
        Due.is("save(1)", x.save(1), 0);
    }

    private static void saveReturnsTheTicks() {
        Due.of(SAVE, "Returns the ticks");
        StairBows x = Scenes.atTheTick(9999);
        Due.is("the greatest", x.save(1), 9999);
        Due.is("the least", new StairBows().save(0), 0);
        x.undo();
        Due.is("as they are", x.save(1), 9900);
    }

    private static void saveOverwrites() {
        Due.of(SAVE, "and overwrites what was saved there");
        StairBows x = new StairBows();
        x.come(5, true);
        x.come(5, true);
        x.pass(9);
        x.save(0);
        x.undo();
        x.undo();
        x.pass(2);
        x.save(0);
        x.pass(20);
        Due.is("the later one", x.restore(0), 2);
        Due.is("its people", x.count(4), 1);
        Due.is("on the step", x.person(0, 3), 1);
    }

    private static void saveIsNoChange() {
        Due.of(UNDO, "each method that is a change", "save is none");
        StairBows x = new StairBows();
        x.save(0);
        Due.is("nothing to undo", x.undo(), NOT_POSSIBLE);
        x.pass(1);
        x.save(1);
        Due.is("one change", x.count(14), 1);
    }

    private static void saveTwoSlots() {
        Due.of(SAVE, "in a slot", "0 or 1, apart");
        StairBows x = new StairBows();
        x.pass(1);
        x.save(0);
        x.pass(1);
        x.save(1);
        x.pass(1);
        Due.is("0", x.restore(0), 1);
        Due.is("1", x.restore(1), 2);
        x.save(0);
        Due.is("1 still", x.restore(1), 2);
        Due.is("0 now", x.restore(0), 2);
    }

    private static void saveLeavesOut() {
        Due.of(SAVE, "Saves everything except the pad, the history and the slots");
        StairBows x = new StairBows();
        x.pass(1);
        x.put(Due.text("u1d"));
        x.save(0);
        x.wipe();
        x.pass(1);
        x.save(1);
        x.pass(1);
        Due.is("restore(0)", x.restore(0), 1);
        Due.is("the pad stays empty", x.count(13), 0);
        Due.is("the history grows", x.count(14), 4);
        Due.is("the other slot is as it was", x.restore(1), 2);
    }

    // ---- promise 21

    private static void restoreNoSuchSlot() {
        Due.of(RESTORE, "BAD_VALUE if there is no such slot");
        StairBows x = new StairBows();
        for (int slot : new int[] {-1, 2, FAR_BELOW, FAR_ABOVE}) {
            Due.is("restore(" + slot + ")", x.restore(slot), BAD_VALUE);
        }
        x.save(0);
        x.save(1);
        for (int slot : new int[] {-1, 2, FAR_BELOW, FAR_ABOVE}) {
            Due.is("restore(" + slot + ") with both saved", x.restore(slot), BAD_VALUE);
        }
    }

    private static void restoreWhereNothingWasSaved() {
        Due.of(RESTORE, "NOT_POSSIBLE if nothing was saved in it.");
        for (int saved = 0; saved < 2; saved++) {
            StairBows x = new StairBows();
            x.pass(1);
            Due.is("restore(0)", x.restore(0), NOT_POSSIBLE);
            Due.is("restore(1)", x.restore(1), NOT_POSSIBLE);
            x.save(saved);
            Due.is("the other one", x.restore(1 - saved), NOT_POSSIBLE);
            Due.is("no change", x.count(14), 1);
            Due.is("this one", x.restore(saved), 1);
            x.undo();
            x.undo();
            Due.is("it stays saved", x.restore(saved), 1);
        }
    }

    private static void restoreReturnsTheTicks() {
        Due.of(RESTORE, "Returns the ticks then");
        StairBows x = new StairBows();
        x.save(0);
        x.pass(7);
        x.save(1);
        Due.is("none", x.restore(0), 0);
        Due.is("as count(3)", x.count(3), 0);
        Due.is("more", x.restore(1), 7);
        Due.is("as count(3) again", x.count(3), 7);
    }

    private static void restoreEverything() {
        Due.of(RESTORE, "Restores what was saved last in a slot");
        StairBows x = new StairBows();
        x.set(2, 3);
        x.come(5, true);
        x.come(2, true);
        x.pass(4);
        x.save(1);
        x.set(0, 4);
        x.set(1, 5);
        x.set(2, 0);
        x.landing(1, true);
        x.turn(0);
        x.come(9, false);
        x.pass(30);
        Due.is("restore(1)", x.restore(1), 4);
        Due.countsAre("restored", x, 2, 1, 3, 4, 2, 0, 2, 0, 0, 1 << 4 | 1 << 8, 0, 0, 1, 0, 6);
        Due.personIs("the first", x, 0, 5, 1, 1, 3, 0, 0, 0, NONE, 0);
        Due.personIs("the second", x, 1, 2, 1, 1, 2, 1, 0, 0, NONE, 0);
        Due.is("nobody else", x.person(2, 0), NO_SUCH);
        Due.is("room on 3", x.step(3, 2), 0);
        Due.is("room on 0", x.step(0, 2), 1);
    }

    private static void restoreSlotKeepsIt() {
        Due.of(RESTORE, "which keeps it");
        StairBows x = new StairBows();
        x.come(5, true);
        x.pass(4);
        x.save(0);
        for (int i = 0; i < 3; i++) {
            Due.is("restore(0)", x.restore(0), 4);
            Due.is("on the step", x.person(0, 3), 3);
            x.set(0, 3);
            x.landing(1, true);
            x.pass(5);
            x.turn(0);
            x.landing(1, false);
            x.set(0, 2);
        }
        Due.is("restore(0) once more", x.restore(0), 4);
        Due.is("its way", x.person(0, 1), 1);
    }

    private static void restoreIsAChange() {
        Due.of(RESTORE, "This is a change.");
        StairBows x = new StairBows();
        x.come(5, true);
        x.save(0);
        x.come(6, true);
        x.pass(9);
        x.restore(0);
        Due.is("four changes", x.count(14), 4);
        Due.is("undo()", x.undo(), 3);
        Due.is("the ticks", x.count(3), 9);
        Due.is("two people", x.count(4), 2);
        Due.is("on the step", x.person(1, 3), 8);
    }

    private static void restoreLeavesPadAndHistory() {
        Due.of(SAVE, "everything except the pad, the history", "which restore leaves, too");
        StairBows x = new StairBows();
        x.save(0);
        x.pass(1);
        x.pass(1);
        x.put(Due.text("u1d"));
        x.restore(0);
        Due.is("the pad", x.count(13), 3);
        Due.is("the history", x.count(14), 3);
        x.undo();
        Due.is("the ticks", x.count(3), 2);
        x.undo();
        Due.is("one less", x.count(3), 1);
    }

    private static void restoreMoreAndFewerPeople() {
        Due.of(RESTORE, "Restores what was saved", "with more people, and with fewer");
        StairBows x = new StairBows();
        x.save(0);
        Scenes.bring(x, 24);
        x.pass(5);
        x.save(1);
        x.restore(0);
        Due.is("nobody", x.count(4), 0);
        Due.is("no such person", x.person(0, 0), NO_SUCH);
        Due.is("nobody on steps", x.count(6), 0);
        Due.is("room on 4", x.step(4, 2), 2);
        x.come(3, false);
        Due.personIs("a new one has nothing of the old one", x, 0, 3, 0, 0, NONE, 0, 0, 0, NONE, 0);
        x.restore(1);
        Due.is("24", x.count(4), 24);
        Due.is("five on steps", x.count(6), 5);
        Due.is("the waits of the last", x.person(23, 4), 5);
        Due.is("no more can come", x.come(5, true), -4);
    }

    private static void restoreThoseWhoAreGone() {
        Due.of(RESTORE, "Restores what was saved", "who has arrived or was sent off, and when");
        StairBows x = Scenes.lowOneAtTheBottom();
        x.save(0);
        x.pass(5);
        x.save(1);
        x.restore(0);
        x.turn(0);
        x.pass(50);
        Due.personIs("turned around, down arrives in the upper hall", x, 0, 6, 1, 2, NONE, 0, 0, 0, 22, 0);
        Due.personIs("and up in the upper hall, too", x, 1, 1, 1, 2, NONE, 0, 0, 0, 23, 0);
        x.restore(1);
        Due.personIs("down had arrived in the lower hall", x, 0, 6, 0, 2, NONE, 0, 0, 0, 13, 0);
        Due.personIs("up had been sent off", x, 1, 1, 1, 3, NONE, 0, 1, 6, 12, 0);
        Due.is("undo()", x.undo(), 5);
        Due.is("as it was", x.person(0, 7), 22);
        Due.is("as it was, too", x.person(1, 7), 23);
    }
}

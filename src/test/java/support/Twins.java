import java.util.ArrayList;
import java.util.List;
import java.util.function.Consumer;
import java.util.function.ToIntFunction;

/** Pairs of objects with the same past, of which one gets a call more that must change nothing. */
final class Twins {
    private Twins() {
    }

    static void stayAlike(String call, Consumer<StairBows> past, ToIntFunction<StairBows> more, int due) {
        compareWhatIsThere(call, past, more, due);
        compareWhatIsKept(call, past, more, due);
    }

    private static void compareWhatIsThere(String call, Consumer<StairBows> past, ToIntFunction<StairBows> more, int due) {
        StairBows x = new StairBows(), y = new StairBows();
        past.accept(x);
        past.accept(y);
        Due.is(call, more.applyAsInt(x), due);
        Due.isTrue(call + " changes nothing", lookAtAll(x).equals(lookAtAll(y)));
        Due.is(call + " changes no pad: read()", x.read(), y.read());
        Due.isTrue(call + " changes no pad", lookAtPeople(x, 3).equals(lookAtPeople(y, 3)));
    }

    private static void compareWhatIsKept(String call, Consumer<StairBows> past, ToIntFunction<StairBows> more, int due) {
        StairBows x = new StairBows(), y = new StairBows();
        past.accept(x);
        past.accept(y);
        Due.is(call, more.applyAsInt(x), due);
        for (int i = 0; i < 7; i++) {
            Due.is(call + " changes no history: undo()", x.undo(), y.undo());
            Due.isTrue(call + " changes no history", lookAtCounts(x).equals(lookAtCounts(y)));
        }
        for (int slot = 0; slot < 2; slot++) {
            Due.is(call + " changes no slot: restore(" + slot + ")", x.restore(slot), y.restore(slot));
            Due.isTrue(call + " changes no slot", lookAtCounts(x).equals(lookAtCounts(y)));
            Due.isTrue(call + " changes nobody in a slot", lookAtPeople(x, 3).equals(lookAtPeople(y, 3)));
        }
    }

    private static List<Integer> lookAtAll(StairBows x) {
        List<Integer> seen = lookAtCounts(x);
        seen.addAll(lookAtPeople(x, 24));
        for (int step = 0; step < 12; step++) {
            for (int what = 0; what < 4; what++) {
                seen.add(x.step(step, what));
            }
        }
        seen.add(x.fault());
        seen.add(x.untilEmpty());
        seen.add(x.bestLanding());
        return seen;
    }

    private static List<Integer> lookAtCounts(StairBows x) {
        List<Integer> seen = new ArrayList<>();
        for (int what = 0; what < 15; what++) {
            seen.add(x.count(what));
        }
        return seen;
    }

    private static List<Integer> lookAtPeople(StairBows x, int howMany) {
        List<Integer> seen = new ArrayList<>();
        for (int number = 0; number < Math.min(howMany, x.count(4)); number++) {
            for (int what = 0; what < 9; what++) {
                seen.add(x.person(number, what));
            }
            seen.add(x.does(number));
        }
        return seen;
    }
}

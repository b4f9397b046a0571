import java.util.ArrayDeque;
import java.util.ArrayList;
import java.util.Comparator;
import java.util.Deque;
import java.util.List;
import java.util.TreeSet;
import java.util.function.ToIntFunction;

/** The document said once more, in the slowest and plainest way, with nothing taken from StairBows. */
final class Model {
    private static final int NO_SUCH = -1, BAD_VALUE = -2, BAD_TEXT = -3, TOO_MANY = -4, NOT_POSSIBLE = -5, NONE = -6;

    private static final class Someone implements Cloneable {
        int number;
        int rank;
        boolean up;
        String where = "hall";
        int step = -99;
        int waits, yields, bows, stayed;
        int behindTick = NONE;
        List<Integer> deeds = new ArrayList<>();

        Someone copy() {
            try {
                Someone copy = (Someone) clone();
                copy.deeds = new ArrayList<>();
                return copy;
            } catch (CloneNotSupportedException e) {
                throw new IllegalStateException(e);
            }
        }
    }

    private static final class World {
        int holds = 2, bows = 1, patience = 0, ticks = 0;
        TreeSet<Integer> landings = new TreeSet<>(List.of(4, 8));
        List<Someone> people = new ArrayList<>();

        World copy() {
            World copy = new World();
            copy.holds = holds;
            copy.bows = bows;
            copy.patience = patience;
            copy.ticks = ticks;
            copy.landings = new TreeSet<>(landings);
            for (Someone s : people) {
                copy.people.add(s.copy());
            }
            return copy;
        }

        List<Someone> on(int step) {
            return people.stream().filter(s -> s.where.equals("step") && s.step == step).toList();
        }

        int room(int step) {
            return (landings.contains(step) ? holds : 1) - on(step).size();
        }

        long at(String where) {
            return people.stream().filter(s -> s.where.equals(where)).count();
        }

        int sum(ToIntFunction<Someone> what) {
            return people.stream().mapToInt(what).sum();
        }

        boolean empty() {
            return at("hall") + at("step") == 0;
        }

        void add(int rank, boolean up) {
            Someone s = new Someone();
            s.number = people.size();
            s.rank = rank;
            s.up = up;
            people.add(s);
        }

        World behind(int n) {
            World later = copy();
            for (int i = 0; i < n; i++) {
                later.tick();
            }
            return later;
        }

        void tick() {
            for (Someone s : people) {
                s.deeds.clear();
            }
            List<Someone> order = new ArrayList<>(people);
            order.sort(Comparator.comparingInt((Someone s) -> -s.rank).thenComparingInt(s -> s.number));
            for (Someone s : order) {
                boolean onWay = s.where.equals("hall") || s.where.equals("step");
                if (onWay && !s.deeds.contains(4)) {
                    act(s);
                }
            }
            ticks++;
        }

        void act(Someone p) {
            int way = p.up ? 1 : -1;
            int next = p.where.equals("hall") ? (p.up ? 0 : 11) : p.step + way;
            if (next == 12 || next == -1) {
                p.where = "arrived";
                p.behindTick = ticks + 1;
                p.stayed = 0;
                p.deeds.add(2);
                return;
            }
            if (room(next) < 1) {
                Someone back = on(next).stream()
                    .filter(o -> o.up != p.up)
                    .filter(o -> p.rank > o.rank || (p.rank == o.rank && !p.up))
                    .filter(o -> patience == 0 || p.stayed >= patience)
                    .min(Comparator.comparingInt((Someone o) -> o.rank).thenComparingInt(o -> o.number))
                    .orElse(null);
                if (back == null || !goesBack(back)) {
                    p.waits++;
                    p.stayed++;
                    p.deeds.add(3);
                    return;
                }
                back.bows += bows * (Math.abs(p.rank - back.rank) + 1);
                back.yields++;
                back.stayed = 0;
            }
            p.where = "step";
            p.step = next;
            p.stayed = 0;
            p.deeds.add(1);
        }

        boolean goesBack(Someone back) {
            int to = back.up ? back.step - 1 : back.step + 1;
            if (to == -1 || to == 12) {
                back.where = "off";
                back.behindTick = ticks + 1;
                back.deeds.add(5);
                return true;
            }
            if (room(to) < 1) {
                return false;
            }
            back.step = to;
            back.deeds.add(4);
            return true;
        }
    }

    private World world = new World();
    private final Deque<World> history = new ArrayDeque<>();
    private final World[] slots = new World[2];
    private String pad = "";

    private void change() {
        history.addLast(world.copy());
        if (history.size() > 6) {
            history.removeFirst();
        }
    }

    int set(int setting, int value) {
        int previous;
        switch (setting) {
            case 0:
                if (value < 1 || value > 4) {
                    return BAD_VALUE;
                }
                for (int step : world.landings) {
                    if (world.on(step).size() > value) {
                        return NOT_POSSIBLE;
                    }
                }
                change();
                previous = world.holds;
                world.holds = value;
                return previous;
            case 1:
                if (value < 1 || value > 5) {
                    return BAD_VALUE;
                }
                change();
                previous = world.bows;
                world.bows = value;
                return previous;
            case 2:
                if (value < 0 || value > 9) {
                    return BAD_VALUE;
                }
                change();
                previous = world.patience;
                world.patience = value;
                return previous;
            default:
                return BAD_VALUE;
        }
    }

    int landing(int step, boolean is) {
        if (step < 0 || step > 11) {
            return NO_SUCH;
        }
        if (world.landings.contains(step) == is || world.on(step).size() > 1) {
            return NOT_POSSIBLE;
        }
        change();
        if (is) {
            world.landings.add(step);
        } else {
            world.landings.remove(step);
        }
        return world.landings.size();
    }

    int come(int rank, boolean up) {
        if (rank < 1 || rank > 9) {
            return BAD_VALUE;
        }
        if (world.people.size() == 24) {
            return TOO_MANY;
        }
        change();
        world.add(rank, up);
        return world.people.size() - 1;
    }

    int read() {
        if (fault() != NONE) {
            return BAD_TEXT;
        }
        if (world.people.size() + pad.length() / 2 > 24) {
            return TOO_MANY;
        }
        change();
        for (int i = 0; i < pad.length(); i += 2) {
            world.add(Integer.parseInt(pad.substring(i + 1, i + 2)), pad.startsWith("u", i));
        }
        pad = "";
        return world.people.size();
    }

    private boolean noPerson(int person) {
        return person < 0 || person >= world.people.size();
    }

    int turn(int person) {
        if (noPerson(person)) {
            return NO_SUCH;
        }
        if (!world.people.get(person).where.equals("step")) {
            return NOT_POSSIBLE;
        }
        change();
        Someone s = world.people.get(person);
        s.up = !s.up;
        return s.up ? 1 : 0;
    }

    int pass(int ticks) {
        if (ticks < 1 || ticks > 99) {
            return BAD_VALUE;
        }
        if (world.ticks + ticks > 9999) {
            return TOO_MANY;
        }
        change();
        long before = world.at("arrived");
        world = world.behind(ticks);
        return (int) (world.at("arrived") - before);
    }

    int person(int person, int what) {
        if (noPerson(person)) {
            return NO_SUCH;
        }
        Someone s = world.people.get(person);
        switch (what) {
            case 0: return s.rank;
            case 1: return s.up ? 1 : 0;
            case 2: return List.of("hall", "step", "arrived", "off").indexOf(s.where);
            case 3: return s.where.equals("step") ? s.step : NONE;
            case 4: return s.waits;
            case 5: return s.yields;
            case 6: return s.bows;
            case 7: return s.behindTick;
            case 8: return s.stayed;
            default: return BAD_VALUE;
        }
    }

    int step(int step, int what) {
        if (step < 0 || step > 11) {
            return NO_SUCH;
        }
        switch (what) {
            case 0: return world.landings.contains(step) ? 1 : 0;
            case 1: return world.on(step).size();
            case 2: return world.room(step);
            case 3:
                return world.on(step).stream()
                    .min(Comparator.comparingInt((Someone s) -> -s.rank).thenComparingInt(s -> s.number))
                    .map(s -> s.number).orElse(NONE);
            default: return BAD_VALUE;
        }
    }

    int does(int person) {
        if (noPerson(person)) {
            return NO_SUCH;
        }
        List<Integer> deeds = world.behind(1).people.get(person).deeds;
        return deeds.isEmpty() ? 0 : deeds.get(deeds.size() - 1);
    }

    int count(int what) {
        switch (what) {
            case 0: return world.holds;
            case 1: return world.bows;
            case 2: return world.patience;
            case 3: return world.ticks;
            case 4: return world.people.size();
            case 5: return (int) world.at("hall");
            case 6: return (int) world.at("step");
            case 7: return (int) world.at("arrived");
            case 8: return (int) world.at("off");
            case 9: return world.landings.stream().mapToInt(step -> 1 << step).sum();
            case 10: return world.sum(s -> s.bows);
            case 11: return world.sum(s -> s.yields);
            case 12: return world.sum(s -> s.waits);
            case 13: return pad.length();
            case 14: return history.size();
            default: return BAD_VALUE;
        }
    }

    int untilArrived(int person) {
        if (noPerson(person)) {
            return NO_SUCH;
        }
        World later = world.copy();
        for (int ticks = 0; ticks <= 200; ticks++) {
            if (later.people.get(person).where.equals("arrived")) {
                return ticks;
            }
            later.tick();
        }
        return NONE;
    }

    int untilEmpty() {
        World later = world.copy();
        for (int ticks = 0; ticks <= 200; ticks++) {
            if (later.empty()) {
                return ticks;
            }
            later.tick();
        }
        return NONE;
    }

    int ifPassed(int ticks, int what) {
        if (ticks < 1 || ticks > 200 || what < 0 || what > 3) {
            return BAD_VALUE;
        }
        World later = world.behind(ticks);
        if (what == 0) {
            return (int) (later.at("arrived") - world.at("arrived"));
        }
        if (what == 1) {
            return (int) (later.at("off") - world.at("off"));
        }
        ToIntFunction<Someone> number = what == 2 ? s -> s.bows : s -> s.waits;
        return later.sum(number) - world.sum(number);
    }

    int bestLanding() {
        int best = NONE;
        int fewest = Integer.MAX_VALUE;
        for (int step = 0; step < 12; step++) {
            if (!world.landings.contains(step)) {
                World other = world.copy();
                other.landings.add(step);
                int bows = other.behind(50).sum(s -> s.bows);
                if (bows < fewest) {
                    fewest = bows;
                    best = step;
                }
            }
        }
        return best;
    }

    int put(long characters) {
        String text = "";
        boolean ended = false;
        for (int i = 0; i < 8; i++) {
            int code = (int) (characters >> 8 * i) & 0xff;
            if (code == 0) {
                ended = true;
            } else if (ended || code < 33 || code > 126) {
                return BAD_VALUE;
            } else {
                text = (char) code + text;
            }
        }
        if (text.isEmpty()) {
            return BAD_VALUE;
        }
        if (pad.length() + text.length() > 60) {
            return TOO_MANY;
        }
        pad += text;
        return pad.length();
    }

    int wipe() {
        int length = pad.length();
        pad = "";
        return length;
    }

    int fault() {
        if (pad.matches("([ud][1-9])+")) {
            return NONE;
        }
        for (int i = 0; i < pad.length(); i++) {
            if (!pad.substring(0, i + 1).matches("([ud][1-9])*[ud]?")) {
                return i;
            }
        }
        return pad.length();
    }

    int undo() {
        if (history.isEmpty()) {
            return NOT_POSSIBLE;
        }
        world = history.removeLast();
        return history.size();
    }

    int save(int slot) {
        if (slot < 0 || slot > 1) {
            return BAD_VALUE;
        }
        slots[slot] = world.copy();
        return world.ticks;
    }

    int restore(int slot) {
        if (slot < 0 || slot > 1) {
            return BAD_VALUE;
        }
        if (slots[slot] == null) {
            return NOT_POSSIBLE;
        }
        change();
        world = slots[slot].copy();
        return world.ticks;
    }
}

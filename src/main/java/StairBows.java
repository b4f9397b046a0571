/** Protocol of a palace staircase: people with ranks meet on its steps, and the lower ones yield and bow. */
public final class StairBows {
    public static final int NO_SUCH = -1, BAD_VALUE = -2, BAD_TEXT = -3, TOO_MANY = -4, NOT_POSSIBLE = -5, NONE = -6;
    public static final int HOLDS = 0, BOWS = 1, PATIENCE = 2;

    private static final int[] FIRST_VALUE = {2, 1, 0};
    private static final int[] LEAST_VALUE = {1, 1, 0};
    private static final int[] GREATEST_VALUE = {4, 5, 9};

    private static final int STEPS = 12;
    private static final int FIRST_LANDINGS = 1 << 4 | 1 << 8;
    private static final int MOST_PEOPLE = 24;
    private static final int HIGHEST_RANK = 9;

    private static final int MOST_TICKS = 9999;
    private static final int MOST_TICKS_A_PASS = 99;
    private static final int MOST_TICKS_AHEAD = 200;
    private static final int TICKS_TO_JUDGE_A_LANDING = 50;

    private static final int MOST_CHARACTERS = 60;
    private static final int MOST_CHARACTERS_A_PUT = 8;
    private static final int MOST_STATES = 6;
    private static final int SLOTS = 2;

    /** Where a person is: the answers of person(.., 2). */
    private static final int IN_HALL = 0, ON_STEP = 1, ARRIVED = 2, SENT_OFF = 3;

    /** What person(person, ..) tells of it, where it is also summed up. */
    private static final int WAITS = 4, YIELDS = 5, BOWS_MADE = 6;

    /** What a person did last in a tick: the answers of does(..). */
    private static final int NO_DEED = 0, GOES = 1, ARRIVES = 2, STAYS = 3, STEPS_BACK = 4, IS_SENT_OFF = 5;

    private final Staircase now = new Staircase();
    private final Staircase trial = new Staircase();
    private final History history = new History();
    private final Staircase[] slots = new Staircase[SLOTS];
    private final boolean[] isSaved = new boolean[SLOTS];
    private final Pad pad = new Pad();

    public StairBows() {
        for (int i = 0; i < SLOTS; i++) {
            slots[i] = new Staircase();
        }
    }

    // ---- changes

    public int set(int setting, int value) {
        if (!isSetting(setting) || value < LEAST_VALUE[setting] || value > GREATEST_VALUE[setting]) {
            return BAD_VALUE;
        }
        if (setting == HOLDS && now.greatestCrowd() > value) {
            return NOT_POSSIBLE;
        }
        history.keep(now);
        int previous = now.settings[setting];
        now.settings[setting] = value;
        return previous;
    }

    public int landing(int step, boolean isLanding) {
        if (!isStep(step)) {
            return NO_SUCH;
        }
        if (now.isLanding(step) == isLanding || now.crowdOn(step) > 1) {
            return NOT_POSSIBLE;
        }
        history.keep(now);
        now.landings ^= 1 << step;
        return Integer.bitCount(now.landings);
    }

    public int come(int rank, boolean goesUp) {
        if (rank < 1 || rank > HIGHEST_RANK) {
            return BAD_VALUE;
        }
        if (now.size >= MOST_PEOPLE) {
            return TOO_MANY;
        }
        history.keep(now);
        now.admit(rank, goesUp);
        return now.size - 1;
    }

    public int read() {
        if (pad.firstFault() != NONE) {
            return BAD_TEXT;
        }
        int comers = pad.length / 2;
        if (now.size + comers > MOST_PEOPLE) {
            return TOO_MANY;
        }
        history.keep(now);
        for (int i = 0; i < comers; i++) {
            now.admit(pad.rankOf(i), pad.isUp(i));
        }
        pad.length = 0;
        return now.size;
    }

    public int turn(int person) {
        if (!isPerson(person)) {
            return NO_SUCH;
        }
        Person turner = now.people[person];
        if (turner.place != ON_STEP) {
            return NOT_POSSIBLE;
        }
        history.keep(now);
        turner.goesUp = !turner.goesUp;
        return turner.goesUp ? 1 : 0;
    }

    public int pass(int ticks) {
        if (ticks < 1 || ticks > MOST_TICKS_A_PASS) {
            return BAD_VALUE;
        }
        if (now.ticks + ticks > MOST_TICKS) {
            return TOO_MANY;
        }
        history.keep(now);
        int before = now.peopleWho(ARRIVED);
        for (int i = 0; i < ticks; i++) {
            now.tick();
        }
        return now.peopleWho(ARRIVED) - before;
    }

    // ---- what there is; nothing changes

    public int person(int person, int what) {
        if (!isPerson(person)) {
            return NO_SUCH;
        }
        return now.people[person].tell(what);
    }

    public int step(int step, int what) {
        if (!isStep(step)) {
            return NO_SUCH;
        }
        switch (what) {
            case 0: return now.isLanding(step) ? 1 : 0;
            case 1: return now.crowdOn(step);
            case 2: return now.roomOn(step);
            case 3: return now.highestOn(step);
            default: return BAD_VALUE;
        }
    }

    public int does(int person) {
        if (!isPerson(person)) {
            return NO_SUCH;
        }
        trial.takeFrom(now);
        trial.tick();
        return trial.people[person].deed;
    }

    public int count(int what) {
        if (isSetting(what)) {
            return now.settings[what];
        }
        switch (what) {
            case 3: return now.ticks;
            case 4: return now.size;
            case 5: return now.peopleWho(IN_HALL);
            case 6: return now.peopleWho(ON_STEP);
            case 7: return now.peopleWho(ARRIVED);
            case 8: return now.peopleWho(SENT_OFF);
            case 9: return now.landings;
            case 10: return now.sumOf(BOWS_MADE);
            case 11: return now.sumOf(YIELDS);
            case 12: return now.sumOf(WAITS);
            case 13: return pad.length;
            case 14: return history.size;
            default: return BAD_VALUE;
        }
    }

    // ---- what if; nothing changes

    public int untilArrived(int person) {
        if (!isPerson(person)) {
            return NO_SUCH;
        }
        trial.takeFrom(now);
        Person walker = trial.people[person];
        int ticks = 0;
        while (ticks < MOST_TICKS_AHEAD && walker.isOnWay()) {
            trial.tick();
            ticks++;
        }
        return walker.place == ARRIVED ? ticks : NONE;
    }

    public int untilEmpty() {
        trial.takeFrom(now);
        int ticks = tryOut(MOST_TICKS_AHEAD);
        return trial.isAnybodyOnWay() ? NONE : ticks;
    }

    public int ifPassed(int ticks, int what) {
        if (ticks < 1 || ticks > MOST_TICKS_AHEAD || what < 0 || what > 3) {
            return BAD_VALUE;
        }
        trial.takeFrom(now);
        tryOut(ticks);
        switch (what) {
            case 0: return trial.peopleWho(ARRIVED) - now.peopleWho(ARRIVED);
            case 1: return trial.peopleWho(SENT_OFF) - now.peopleWho(SENT_OFF);
            case 2: return trial.sumOf(BOWS_MADE) - now.sumOf(BOWS_MADE);
            default: return trial.sumOf(WAITS) - now.sumOf(WAITS);
        }
    }

    public int bestLanding() {
        int best = NONE;
        int fewestBows = 0;
        for (int step = 0; step < STEPS; step++) {
            if (now.isLanding(step)) {
                continue;
            }
            trial.takeFrom(now);
            trial.landings |= 1 << step;
            tryOut(TICKS_TO_JUDGE_A_LANDING);
            int bows = trial.sumOf(BOWS_MADE);
            if (best == NONE || bows < fewestBows) {
                best = step;
                fewestBows = bows;
            }
        }
        return best;
    }

    // ---- texts

    public int put(long characters) {
        return pad.append(characters);
    }

    public int wipe() {
        int length = pad.length;
        pad.length = 0;
        return length;
    }

    public int fault() {
        return pad.firstFault();
    }

    // ---- undo, saving

    public int undo() {
        if (history.size == 0) {
            return NOT_POSSIBLE;
        }
        history.bringBackInto(now);
        return history.size;
    }

    public int save(int slot) {
        if (!isSlot(slot)) {
            return BAD_VALUE;
        }
        slots[slot].takeFrom(now);
        isSaved[slot] = true;
        return now.ticks;
    }

    public int restore(int slot) {
        if (!isSlot(slot)) {
            return BAD_VALUE;
        }
        if (!isSaved[slot]) {
            return NOT_POSSIBLE;
        }
        history.keep(now);
        now.takeFrom(slots[slot]);
        return now.ticks;
    }

    // ---- helpers

    private static boolean isSetting(int setting) {
        return setting >= HOLDS && setting <= PATIENCE;
    }

    private static boolean isStep(int step) {
        return step >= 0 && step < STEPS;
    }

    private static boolean isSlot(int slot) {
        return slot >= 0 && slot < SLOTS;
    }

    private boolean isPerson(int person) {
        return person >= 0 && person < now.size;
    }

    /** Lets ticks pass on the trial, and answers how many did; it ends early when no tick could change anything more. */
    private int tryOut(int ticks) {
        int passed = 0;
        while (passed < ticks && trial.isAnybodyOnWay()) {
            trial.tick();
            passed++;
        }
        return passed;
    }

    private static final class Person {
        int rank;
        boolean goesUp;
        int place;
        /** The step on which it stands; if on none, the number just beyond the steps on that side. */
        int at;
        int waits;
        int yields;
        int bows;
        int endedAt;
        int stayed;
        /** Holds for one tick alone, so copies leave it out. */
        int deed;

        void enterHall(int newRank, boolean isGoingUp) {
            rank = newRank;
            goesUp = isGoingUp;
            place = IN_HALL;
            at = isGoingUp ? -1 : STEPS;
            waits = 0;
            yields = 0;
            bows = 0;
            endedAt = 0;
            stayed = 0;
        }

        void takeFrom(Person other) {
            rank = other.rank;
            goesUp = other.goesUp;
            place = other.place;
            at = other.at;
            waits = other.waits;
            yields = other.yields;
            bows = other.bows;
            endedAt = other.endedAt;
            stayed = other.stayed;
        }

        boolean isOnWay() {
            return place == IN_HALL || place == ON_STEP;
        }

        boolean standsOn(int step) {
            return place == ON_STEP && at == step;
        }

        int nextStep() {
            return goesUp ? at + 1 : at - 1;
        }

        int stepBehind() {
            return goesUp ? at - 1 : at + 1;
        }

        boolean yieldsTo(Person walker) {
            return goesUp != walker.goesUp
                && (walker.rank > rank || walker.rank == rank && !walker.goesUp);
        }

        void stay() {
            deed = STAYS;
            waits++;
            stayed++;
        }

        void bow(int times) {
            yields++;
            bows += times;
        }

        int tell(int what) {
            switch (what) {
                case 0: return rank;
                case 1: return goesUp ? 1 : 0;
                case 2: return place;
                case 3: return place == ON_STEP ? at : NONE;
                case WAITS: return waits;
                case YIELDS: return yields;
                case BOWS_MADE: return bows;
                case 7: return isOnWay() ? NONE : endedAt;
                case 8: return stayed;
                default: return BAD_VALUE;
            }
        }
    }

    /** All that undo and the slots bring back. */
    private static final class Staircase {
        final int[] settings = new int[FIRST_VALUE.length];
        final Person[] people = new Person[MOST_PEOPLE];
        /** How many stand on each step: told by the people too, but asked too often to count them each time. */
        final int[] crowds = new int[STEPS];
        int landings = FIRST_LANDINGS;
        int size;
        int ticks;

        Staircase() {
            for (int i = 0; i < settings.length; i++) {
                settings[i] = FIRST_VALUE[i];
            }
            for (int i = 0; i < people.length; i++) {
                people[i] = new Person();
            }
        }

        void takeFrom(Staircase other) {
            System.arraycopy(other.settings, 0, settings, 0, settings.length);
            System.arraycopy(other.crowds, 0, crowds, 0, crowds.length);
            landings = other.landings;
            size = other.size;
            ticks = other.ticks;
            for (int i = 0; i < size; i++) {
                people[i].takeFrom(other.people[i]);
            }
        }

        void admit(int rank, boolean goesUp) {
            if (size < MOST_PEOPLE) {
                people[size].enterHall(rank, goesUp);
                size++;
            }
        }

        boolean isLanding(int step) {
            return (landings >> step & 1) == 1;
        }

        int crowdOn(int step) {
            return isStep(step) ? crowds[step] : 0;
        }

        int roomOn(int step) {
            return (isLanding(step) ? settings[HOLDS] : 1) - crowdOn(step);
        }

        int greatestCrowd() {
            int greatest = 0;
            for (int step = 0; step < STEPS; step++) {
                greatest = Math.max(greatest, crowds[step]);
            }
            return greatest;
        }

        int highestOn(int step) {
            int highest = NONE;
            int rank = 0;
            for (int i = 0; i < size; i++) {
                if (people[i].standsOn(step) && people[i].rank > rank) {
                    highest = i;
                    rank = people[i].rank;
                }
            }
            return highest;
        }

        int peopleWho(int place) {
            int sum = 0;
            for (int i = 0; i < size; i++) {
                if (people[i].place == place) {
                    sum++;
                }
            }
            return sum;
        }

        /** What all people have together of a number that Person.tell tells. */
        int sumOf(int what) {
            int sum = 0;
            for (int i = 0; i < size; i++) {
                sum += people[i].tell(what);
            }
            return sum;
        }

        boolean isAnybodyOnWay() {
            for (int i = 0; i < size; i++) {
                if (people[i].isOnWay()) {
                    return true;
                }
            }
            return false;
        }

        void tick() {
            for (int i = 0; i < size; i++) {
                people[i].deed = NO_DEED;
            }
            for (int rank = HIGHEST_RANK; rank >= 1; rank--) {
                for (int i = 0; i < size; i++) {
                    Person walker = people[i];
                    if (walker.rank == rank && walker.isOnWay() && walker.deed != STEPS_BACK) {
                        move(walker);
                    }
                }
            }
            ticks++;
        }

        private void move(Person walker) {
            int next = walker.nextStep();
            if (!isStep(next)) {
                bring(walker, next, ARRIVED, ARRIVES);
            } else if (roomOn(next) > 0 || isCleared(next, walker)) {
                bring(walker, next, ON_STEP, GOES);
            } else {
                walker.stay();
            }
        }

        /** Has somebody on a full step step back for the walker, if anybody there must and can. */
        private boolean isCleared(int step, Person walker) {
            if (walker.stayed < settings[PATIENCE]) {
                return false;
            }
            Person yielder = yielderOn(step, walker);
            if (yielder == null) {
                return false;
            }
            int behind = yielder.stepBehind();
            if (isStep(behind) && roomOn(behind) <= 0) {
                return false;
            }
            if (isStep(behind)) {
                bring(yielder, behind, ON_STEP, STEPS_BACK);
            } else {
                bring(yielder, behind, SENT_OFF, IS_SENT_OFF);
            }
            yielder.bow(settings[BOWS] * (walker.rank - yielder.rank + 1));
            return true;
        }

        private Person yielderOn(int step, Person walker) {
            Person lowest = null;
            for (int i = 0; i < size; i++) {
                Person other = people[i];
                if (other.standsOn(step) && other.yieldsTo(walker)
                        && (lowest == null || other.rank < lowest.rank)) {
                    lowest = other;
                }
            }
            return lowest;
        }

        /** Brings a person to a step, or beyond the steps, where its way ends. */
        private void bring(Person person, int to, int place, int deed) {
            if (isStep(person.at)) {
                crowds[person.at]--;
            }
            if (isStep(to)) {
                crowds[to]++;
            } else {
                person.endedAt = ticks + 1;
            }
            person.at = to;
            person.place = place;
            person.deed = deed;
            person.stayed = 0;
        }
    }

    /** The states before the latest changes, the oldest first. */
    private static final class History {
        final Staircase[] states = new Staircase[MOST_STATES];
        int size;

        History() {
            for (int i = 0; i < states.length; i++) {
                states[i] = new Staircase();
            }
        }

        void keep(Staircase state) {
            if (size == MOST_STATES) {
                dropOldest();
            }
            if (size >= 0 && size < MOST_STATES) {
                states[size].takeFrom(state);
                size++;
            }
        }

        /** The dropped state's rows go behind the others, to be used again. */
        private void dropOldest() {
            Staircase oldest = states[0];
            for (int i = 1; i < MOST_STATES; i++) {
                states[i - 1] = states[i];
            }
            states[MOST_STATES - 1] = oldest;
            size--;
        }

        void bringBackInto(Staircase state) {
            if (size > 0 && size <= MOST_STATES) {
                size--;
                state.takeFrom(states[size]);
            }
        }
    }

    private static final class Pad {
        final char[] signs = new char[MOST_CHARACTERS];
        int length;

        int append(long characters) {
            int added = charactersIn(characters);
            if (added == 0) {
                return BAD_VALUE;
            }
            if (length + added > MOST_CHARACTERS) {
                return TOO_MANY;
            }
            for (int i = 0; i < added; i++) {
                signs[length + added - 1 - i] = (char) (characters >>> 8 * i & 255);
            }
            length += added;
            return length;
        }

        /** How many characters a number gives; 0 if it gives none, or wrong ones. */
        private static int charactersIn(long characters) {
            int found = 0;
            long rest = characters;
            while (rest != 0 && found < MOST_CHARACTERS_A_PUT) {
                long code = rest & 255;
                if (code < 33 || code > 126) {
                    return 0;
                }
                rest >>>= 8;
                found++;
            }
            return found;
        }

        int firstFault() {
            for (int i = 0; i < length; i++) {
                if (!canStandAt(i)) {
                    return i;
                }
            }
            return length == 0 || length % 2 == 1 ? length : NONE;
        }

        private boolean canStandAt(int index) {
            char sign = signs[index];
            if (index % 2 == 0) {
                return sign == 'u' || sign == 'd';
            }
            return sign >= '1' && sign <= '9';
        }

        boolean isUp(int comer) {
            int index = 2 * comer;
            return index >= 0 && index < length && signs[index] == 'u';
        }

        int rankOf(int comer) {
            int index = 2 * comer + 1;
            return index >= 1 && index < length ? signs[index] - '0' : 1;
        }
    }
}
